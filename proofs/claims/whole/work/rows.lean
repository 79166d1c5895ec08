section
-- ===== PART A: goes FIRST, ahead of the names: the tables' words, and 'selects' of the private methods out of them =====
/-- a private method of a class that the tables say can be made, by its rows of tables_1 -/
def lw_okq (q : MethodName × Nat) : Prop := (q.1.cls ≠ "java/lang/invoke/MethodHandle" ∧ q.1.cls ≠ "java/lang/invoke/VarHandle") ∧ Cond.instantiable q.1.cls q.2 ∈ tables_1 ∧ Cond.privateMethod q.1 ∈ tables_1 ∧ Cond.instanceMethod q.1 ∈ tables_1
theorem lw_p0 : lw_okq (⟨"BladeDesk$FormReader", "start", "(I)V"⟩, 6) := ⟨⟨by decide +kernel, by decide +kernel⟩, List.mem_of_getElem? (i := 108) (by decide +kernel), List.mem_of_getElem? (i := 180) (by decide +kernel), List.mem_of_getElem? (i := 181) (by decide +kernel)⟩
theorem lw_p1 : lw_okq (⟨"BladeDesk$FormReader", "startTerm", "(Z)V"⟩, 6) := ⟨⟨by decide +kernel, by decide +kernel⟩, List.mem_of_getElem? (i := 108) (by decide +kernel), List.mem_of_getElem? (i := 184) (by decide +kernel), List.mem_of_getElem? (i := 185) (by decide +kernel)⟩
theorem lw_p2 : lw_okq (⟨"BladeDesk$FormReader", "accepts", "(I)Z"⟩, 6) := ⟨⟨by decide +kernel, by decide +kernel⟩, List.mem_of_getElem? (i := 108) (by decide +kernel), List.mem_of_getElem? (i := 188) (by decide +kernel), List.mem_of_getElem? (i := 189) (by decide +kernel)⟩
theorem lw_p3 : lw_okq (⟨"BladeDesk$FormReader", "acceptsSign", "(Z)Z"⟩, 6) := ⟨⟨by decide +kernel, by decide +kernel⟩, List.mem_of_getElem? (i := 108) (by decide +kernel), List.mem_of_getElem? (i := 192) (by decide +kernel), List.mem_of_getElem? (i := 193) (by decide +kernel)⟩
theorem lw_p4 : lw_okq (⟨"BladeDesk$FormReader", "addTerm", "()V"⟩, 6) := ⟨⟨by decide +kernel, by decide +kernel⟩, List.mem_of_getElem? (i := 108) (by decide +kernel), List.mem_of_getElem? (i := 196) (by decide +kernel), List.mem_of_getElem? (i := 197) (by decide +kernel)⟩
theorem lw_p5 : lw_okq (⟨"BladeDesk$FormReader", "acceptsLetter", "()Z"⟩, 6) := ⟨⟨by decide +kernel, by decide +kernel⟩, List.mem_of_getElem? (i := 108) (by decide +kernel), List.mem_of_getElem? (i := 200) (by decide +kernel), List.mem_of_getElem? (i := 201) (by decide +kernel)⟩
theorem lw_p6 : lw_okq (⟨"BladeDesk$FormReader", "acceptsDigit", "(I)Z"⟩, 6) := ⟨⟨by decide +kernel, by decide +kernel⟩, List.mem_of_getElem? (i := 108) (by decide +kernel), List.mem_of_getElem? (i := 204) (by decide +kernel), List.mem_of_getElem? (i := 205) (by decide +kernel)⟩
theorem lw_p7 : lw_okq (⟨"BladeDesk$FormReader", "acceptsFirstDigit", "(I)Z"⟩, 6) := ⟨⟨by decide +kernel, by decide +kernel⟩, List.mem_of_getElem? (i := 108) (by decide +kernel), List.mem_of_getElem? (i := 208) (by decide +kernel), List.mem_of_getElem? (i := 209) (by decide +kernel)⟩
theorem lw_p8 : lw_okq (⟨"BladeDesk$FormReader", "acceptsDirection", "(I)Z"⟩, 6) := ⟨⟨by decide +kernel, by decide +kernel⟩, List.mem_of_getElem? (i := 108) (by decide +kernel), List.mem_of_getElem? (i := 212) (by decide +kernel), List.mem_of_getElem? (i := 213) (by decide +kernel)⟩
theorem lw_p9 : lw_okq (⟨"BladeDesk", "hashCounts", "(J)J"⟩, 11) := ⟨⟨by decide +kernel, by decide +kernel⟩, List.mem_of_getElem? (i := 22) (by decide +kernel), List.mem_of_getElem? (i := 221) (by decide +kernel), List.mem_of_getElem? (i := 222) (by decide +kernel)⟩
theorem lw_p10 : lw_okq (⟨"BladeDesk", "signOrZero", "(I)I"⟩, 11) := ⟨⟨by decide +kernel, by decide +kernel⟩, List.mem_of_getElem? (i := 22) (by decide +kernel), List.mem_of_getElem? (i := 230) (by decide +kernel), List.mem_of_getElem? (i := 231) (by decide +kernel)⟩
theorem lw_p11 : lw_okq (⟨"BladeDesk", "countTaken", "()I"⟩, 11) := ⟨⟨by decide +kernel, by decide +kernel⟩, List.mem_of_getElem? (i := 22) (by decide +kernel), List.mem_of_getElem? (i := 269) (by decide +kernel), List.mem_of_getElem? (i := 270) (by decide +kernel)⟩
theorem lw_p12 : lw_okq (⟨"java/lang/Throwable", "fillInStackTrace", "(I)Ljava/lang/Throwable;"⟩, 6) := ⟨⟨by decide +kernel, by decide +kernel⟩, List.mem_of_getElem? (i := 311) (by decide +kernel), List.mem_of_getElem? (i := 309) (by decide +kernel), List.mem_of_getElem? (i := 310) (by decide +kernel)⟩
theorem lw_p13 : lw_okq (⟨"BladeDesk", "hashMatrix", "(J)J"⟩, 11) := ⟨⟨by decide +kernel, by decide +kernel⟩, List.mem_of_getElem? (i := 22) (by decide +kernel), List.mem_of_getElem? (i := 341) (by decide +kernel), List.mem_of_getElem? (i := 342) (by decide +kernel)⟩
theorem lw_p14 : lw_okq (⟨"BladeDesk", "hashSlot", "(JI)J"⟩, 11) := ⟨⟨by decide +kernel, by decide +kernel⟩, List.mem_of_getElem? (i := 22) (by decide +kernel), List.mem_of_getElem? (i := 345) (by decide +kernel), List.mem_of_getElem? (i := 346) (by decide +kernel)⟩
theorem lw_p15 : lw_okq (⟨"BladeDesk", "decomposableAsTold", "(I)I"⟩, 11) := ⟨⟨by decide +kernel, by decide +kernel⟩, List.mem_of_getElem? (i := 22) (by decide +kernel), List.mem_of_getElem? (i := 381) (by decide +kernel), List.mem_of_getElem? (i := 382) (by decide +kernel)⟩
def lw_privs_1 : List (MethodName × Nat) := [(⟨"BladeDesk$FormReader", "start", "(I)V"⟩, 6), (⟨"BladeDesk$FormReader", "startTerm", "(Z)V"⟩, 6), (⟨"BladeDesk$FormReader", "accepts", "(I)Z"⟩, 6), (⟨"BladeDesk$FormReader", "acceptsSign", "(Z)Z"⟩, 6), (⟨"BladeDesk$FormReader", "addTerm", "()V"⟩, 6), (⟨"BladeDesk$FormReader", "acceptsLetter", "()Z"⟩, 6), (⟨"BladeDesk$FormReader", "acceptsDigit", "(I)Z"⟩, 6), (⟨"BladeDesk$FormReader", "acceptsFirstDigit", "(I)Z"⟩, 6), (⟨"BladeDesk$FormReader", "acceptsDirection", "(I)Z"⟩, 6), (⟨"BladeDesk", "hashCounts", "(J)J"⟩, 11), (⟨"BladeDesk", "signOrZero", "(I)I"⟩, 11), (⟨"BladeDesk", "countTaken", "()I"⟩, 11), (⟨"java/lang/Throwable", "fillInStackTrace", "(I)Ljava/lang/Throwable;"⟩, 6), (⟨"BladeDesk", "hashMatrix", "(J)J"⟩, 11), (⟨"BladeDesk", "hashSlot", "(JI)J"⟩, 11), (⟨"BladeDesk", "decomposableAsTold", "(I)I"⟩, 11)]
theorem lw_r1 : ∀ q ∈ lw_privs_1, lw_okq q := List.forall_mem_cons.mpr ⟨lw_p0, List.forall_mem_cons.mpr ⟨lw_p1, List.forall_mem_cons.mpr ⟨lw_p2, List.forall_mem_cons.mpr ⟨lw_p3, List.forall_mem_cons.mpr ⟨lw_p4, List.forall_mem_cons.mpr ⟨lw_p5, List.forall_mem_cons.mpr ⟨lw_p6, List.forall_mem_cons.mpr ⟨lw_p7, List.forall_mem_cons.mpr ⟨lw_p8, List.forall_mem_cons.mpr ⟨lw_p9, List.forall_mem_cons.mpr ⟨lw_p10, List.forall_mem_cons.mpr ⟨lw_p11, List.forall_mem_cons.mpr ⟨lw_p12, List.forall_mem_cons.mpr ⟨lw_p13, List.forall_mem_cons.mpr ⟨lw_p14, List.forall_mem_cons.mpr ⟨lw_p15, fun _ h => absurd h List.not_mem_nil⟩⟩⟩⟩⟩⟩⟩⟩⟩⟩⟩⟩⟩⟩⟩⟩
theorem lw_p16 : lw_okq (⟨"BladeDesk", "wedgeWithPartnerIsZero", "([II)Z"⟩, 11) := ⟨⟨by decide +kernel, by decide +kernel⟩, List.mem_of_getElem? (i := 22) (by decide +kernel), List.mem_of_getElem? (i := 388) (by decide +kernel), List.mem_of_getElem? (i := 389) (by decide +kernel)⟩
theorem lw_p17 : lw_okq (⟨"BladeDesk", "resultIsZero", "()Z"⟩, 11) := ⟨⟨by decide +kernel, by decide +kernel⟩, List.mem_of_getElem? (i := 22) (by decide +kernel), List.mem_of_getElem? (i := 402) (by decide +kernel), List.mem_of_getElem? (i := 403) (by decide +kernel)⟩
theorem lw_p18 : lw_okq (⟨"BladeDesk", "decomposableByAnnihilator", "(I)I"⟩, 11) := ⟨⟨by decide +kernel, by decide +kernel⟩, List.mem_of_getElem? (i := 22) (by decide +kernel), List.mem_of_getElem? (i := 406) (by decide +kernel), List.mem_of_getElem? (i := 407) (by decide +kernel)⟩
theorem lw_p19 : lw_okq (⟨"BladeDesk$Kernel", "startWithAll", "(I)V"⟩, 3) := ⟨⟨by decide +kernel, by decide +kernel⟩, List.mem_of_getElem? (i := 88) (by decide +kernel), List.mem_of_getElem? (i := 416) (by decide +kernel), List.mem_of_getElem? (i := 417) (by decide +kernel)⟩
theorem lw_p20 : lw_okq (⟨"BladeDesk$Kernel", "cut", "([III)V"⟩, 3) := ⟨⟨by decide +kernel, by decide +kernel⟩, List.mem_of_getElem? (i := 88) (by decide +kernel), List.mem_of_getElem? (i := 420) (by decide +kernel), List.mem_of_getElem? (i := 421) (by decide +kernel)⟩
theorem lw_p21 : lw_okq (⟨"BladeDesk$Kernel", "clearWith", "(III)V"⟩, 3) := ⟨⟨by decide +kernel, by decide +kernel⟩, List.mem_of_getElem? (i := 88) (by decide +kernel), List.mem_of_getElem? (i := 428) (by decide +kernel), List.mem_of_getElem? (i := 429) (by decide +kernel)⟩
theorem lw_p22 : lw_okq (⟨"BladeDesk$Kernel", "removeVector", "(II)V"⟩, 3) := ⟨⟨by decide +kernel, by decide +kernel⟩, List.mem_of_getElem? (i := 88) (by decide +kernel), List.mem_of_getElem? (i := 438) (by decide +kernel), List.mem_of_getElem? (i := 439) (by decide +kernel)⟩
theorem lw_p23 : lw_okq (⟨"BladeDesk", "hashAnnihilator", "(J[I)J"⟩, 11) := ⟨⟨by decide +kernel, by decide +kernel⟩, List.mem_of_getElem? (i := 22) (by decide +kernel), List.mem_of_getElem? (i := 445) (by decide +kernel), List.mem_of_getElem? (i := 446) (by decide +kernel)⟩
theorem lw_p24 : lw_okq (⟨"BladeDesk", "hashFactors", "(J[I)J"⟩, 11) := ⟨⟨by decide +kernel, by decide +kernel⟩, List.mem_of_getElem? (i := 22) (by decide +kernel), List.mem_of_getElem? (i := 453) (by decide +kernel), List.mem_of_getElem? (i := 454) (by decide +kernel)⟩
theorem lw_p25 : lw_okq (⟨"BladeDesk", "requireGrade", "(I)V"⟩, 11) := ⟨⟨by decide +kernel, by decide +kernel⟩, List.mem_of_getElem? (i := 22) (by decide +kernel), List.mem_of_getElem? (i := 513) (by decide +kernel), List.mem_of_getElem? (i := 514) (by decide +kernel)⟩
theorem lw_p26 : lw_okq (⟨"BladeDesk", "firstTooLarge", "()I"⟩, 11) := ⟨⟨by decide +kernel, by decide +kernel⟩, List.mem_of_getElem? (i := 22) (by decide +kernel), List.mem_of_getElem? (i := 541) (by decide +kernel), List.mem_of_getElem? (i := 542) (by decide +kernel)⟩
theorem lw_p27 : lw_okq (⟨"BladeDesk", "requireDirection", "(I)V"⟩, 11) := ⟨⟨by decide +kernel, by decide +kernel⟩, List.mem_of_getElem? (i := 22) (by decide +kernel), List.mem_of_getElem? (i := 578) (by decide +kernel), List.mem_of_getElem? (i := 579) (by decide +kernel)⟩
theorem lw_p28 : lw_okq (⟨"BladeDesk", "requireBlade", "(I)V"⟩, 11) := ⟨⟨by decide +kernel, by decide +kernel⟩, List.mem_of_getElem? (i := 22) (by decide +kernel), List.mem_of_getElem? (i := 602) (by decide +kernel), List.mem_of_getElem? (i := 603) (by decide +kernel)⟩
theorem lw_p29 : lw_okq (⟨"BladeDesk", "requireFits", "()V"⟩, 11) := ⟨⟨by decide +kernel, by decide +kernel⟩, List.mem_of_getElem? (i := 22) (by decide +kernel), List.mem_of_getElem? (i := 619) (by decide +kernel), List.mem_of_getElem? (i := 620) (by decide +kernel)⟩
theorem lw_p30 : lw_okq (⟨"BladeDesk", "storeResult", "(II)I"⟩, 11) := ⟨⟨by decide +kernel, by decide +kernel⟩, List.mem_of_getElem? (i := 22) (by decide +kernel), List.mem_of_getElem? (i := 639) (by decide +kernel), List.mem_of_getElem? (i := 640) (by decide +kernel)⟩
theorem lw_p31 : lw_okq (⟨"BladeDesk", "countFactors", "(I)I"⟩, 11) := ⟨⟨by decide +kernel, by decide +kernel⟩, List.mem_of_getElem? (i := 22) (by decide +kernel), List.mem_of_getElem? (i := 797) (by decide +kernel), List.mem_of_getElem? (i := 798) (by decide +kernel)⟩
def lw_privs_2 : List (MethodName × Nat) := [(⟨"BladeDesk", "wedgeWithPartnerIsZero", "([II)Z"⟩, 11), (⟨"BladeDesk", "resultIsZero", "()Z"⟩, 11), (⟨"BladeDesk", "decomposableByAnnihilator", "(I)I"⟩, 11), (⟨"BladeDesk$Kernel", "startWithAll", "(I)V"⟩, 3), (⟨"BladeDesk$Kernel", "cut", "([III)V"⟩, 3), (⟨"BladeDesk$Kernel", "clearWith", "(III)V"⟩, 3), (⟨"BladeDesk$Kernel", "removeVector", "(II)V"⟩, 3), (⟨"BladeDesk", "hashAnnihilator", "(J[I)J"⟩, 11), (⟨"BladeDesk", "hashFactors", "(J[I)J"⟩, 11), (⟨"BladeDesk", "requireGrade", "(I)V"⟩, 11), (⟨"BladeDesk", "firstTooLarge", "()I"⟩, 11), (⟨"BladeDesk", "requireDirection", "(I)V"⟩, 11), (⟨"BladeDesk", "requireBlade", "(I)V"⟩, 11), (⟨"BladeDesk", "requireFits", "()V"⟩, 11), (⟨"BladeDesk", "storeResult", "(II)I"⟩, 11), (⟨"BladeDesk", "countFactors", "(I)I"⟩, 11)]
theorem lw_r2 : ∀ q ∈ lw_privs_2, lw_okq q := List.forall_mem_cons.mpr ⟨lw_p16, List.forall_mem_cons.mpr ⟨lw_p17, List.forall_mem_cons.mpr ⟨lw_p18, List.forall_mem_cons.mpr ⟨lw_p19, List.forall_mem_cons.mpr ⟨lw_p20, List.forall_mem_cons.mpr ⟨lw_p21, List.forall_mem_cons.mpr ⟨lw_p22, List.forall_mem_cons.mpr ⟨lw_p23, List.forall_mem_cons.mpr ⟨lw_p24, List.forall_mem_cons.mpr ⟨lw_p25, List.forall_mem_cons.mpr ⟨lw_p26, List.forall_mem_cons.mpr ⟨lw_p27, List.forall_mem_cons.mpr ⟨lw_p28, List.forall_mem_cons.mpr ⟨lw_p29, List.forall_mem_cons.mpr ⟨lw_p30, List.forall_mem_cons.mpr ⟨lw_p31, fun _ h => absurd h List.not_mem_nil⟩⟩⟩⟩⟩⟩⟩⟩⟩⟩⟩⟩⟩⟩⟩⟩
theorem lw_p32 : lw_okq (⟨"BladeDeskModel", "layPlain", "()V"⟩, 24) := ⟨⟨by decide +kernel, by decide +kernel⟩, List.mem_of_getElem? (i := 842) (by decide +kernel), List.mem_of_getElem? (i := 848) (by decide +kernel), List.mem_of_getElem? (i := 849) (by decide +kernel)⟩
theorem lw_p33 : lw_okq (⟨"BladeDeskModel", "fails", "(I)I"⟩, 24) := ⟨⟨by decide +kernel, by decide +kernel⟩, List.mem_of_getElem? (i := 842) (by decide +kernel), List.mem_of_getElem? (i := 936) (by decide +kernel), List.mem_of_getElem? (i := 937) (by decide +kernel)⟩
theorem lw_p34 : lw_okq (⟨"BladeDeskModel", "save", "()V"⟩, 24) := ⟨⟨by decide +kernel, by decide +kernel⟩, List.mem_of_getElem? (i := 842) (by decide +kernel), List.mem_of_getElem? (i := 940) (by decide +kernel), List.mem_of_getElem? (i := 941) (by decide +kernel)⟩
theorem lw_p35 : lw_okq (⟨"BladeDeskModel", "isDirection", "(I)Z"⟩, 24) := ⟨⟨by decide +kernel, by decide +kernel⟩, List.mem_of_getElem? (i := 842) (by decide +kernel), List.mem_of_getElem? (i := 948) (by decide +kernel), List.mem_of_getElem? (i := 949) (by decide +kernel)⟩
theorem lw_p36 : lw_okq (⟨"BladeDeskModel", "isBlade", "(I)Z"⟩, 24) := ⟨⟨by decide +kernel, by decide +kernel⟩, List.mem_of_getElem? (i := 842) (by decide +kernel), List.mem_of_getElem? (i := 963) (by decide +kernel), List.mem_of_getElem? (i := 964) (by decide +kernel)⟩
theorem lw_p37 : lw_okq (⟨"BladeDeskModel", "blades", "()I"⟩, 24) := ⟨⟨by decide +kernel, by decide +kernel⟩, List.mem_of_getElem? (i := 842) (by decide +kernel), List.mem_of_getElem? (i := 967) (by decide +kernel), List.mem_of_getElem? (i := 968) (by decide +kernel)⟩
theorem lw_p38 : lw_okq (⟨"BladeDeskModel", "at", "(II)I"⟩, 24) := ⟨⟨by decide +kernel, by decide +kernel⟩, List.mem_of_getElem? (i := 842) (by decide +kernel), List.mem_of_getElem? (i := 973) (by decide +kernel), List.mem_of_getElem? (i := 974) (by decide +kernel)⟩
theorem lw_p39 : lw_okq (⟨"BladeDeskModel", "layBy", "(III)V"⟩, 24) := ⟨⟨by decide +kernel, by decide +kernel⟩, List.mem_of_getElem? (i := 842) (by decide +kernel), List.mem_of_getElem? (i := 981) (by decide +kernel), List.mem_of_getElem? (i := 982) (by decide +kernel)⟩
theorem lw_p40 : lw_okq (⟨"BladeDeskModel", "laySlots", "(II)V"⟩, 24) := ⟨⟨by decide +kernel, by decide +kernel⟩, List.mem_of_getElem? (i := 842) (by decide +kernel), List.mem_of_getElem? (i := 985) (by decide +kernel), List.mem_of_getElem? (i := 986) (by decide +kernel)⟩
theorem lw_p41 : lw_okq (⟨"BladeDeskModel", "layWedge", "()V"⟩, 24) := ⟨⟨by decide +kernel, by decide +kernel⟩, List.mem_of_getElem? (i := 842) (by decide +kernel), List.mem_of_getElem? (i := 989) (by decide +kernel), List.mem_of_getElem? (i := 990) (by decide +kernel)⟩
theorem lw_p42 : lw_okq (⟨"BladeDeskModel", "layContraction", "()V"⟩, 24) := ⟨⟨by decide +kernel, by decide +kernel⟩, List.mem_of_getElem? (i := 842) (by decide +kernel), List.mem_of_getElem? (i := 1002) (by decide +kernel), List.mem_of_getElem? (i := 1003) (by decide +kernel)⟩
theorem lw_p43 : lw_okq (⟨"BladeDeskModel", "signOf", "(I)I"⟩, 24) := ⟨⟨by decide +kernel, by decide +kernel⟩, List.mem_of_getElem? (i := 842) (by decide +kernel), List.mem_of_getElem? (i := 1006) (by decide +kernel), List.mem_of_getElem? (i := 1007) (by decide +kernel)⟩
theorem lw_p44 : lw_okq (⟨"BladeDeskModel", "layPush", "()V"⟩, 24) := ⟨⟨by decide +kernel, by decide +kernel⟩, List.mem_of_getElem? (i := 842) (by decide +kernel), List.mem_of_getElem? (i := 1010) (by decide +kernel), List.mem_of_getElem? (i := 1011) (by decide +kernel)⟩
theorem lw_p45 : lw_okq (⟨"BladeDeskModel", "layGrown", "(I)V"⟩, 24) := ⟨⟨by decide +kernel, by decide +kernel⟩, List.mem_of_getElem? (i := 842) (by decide +kernel), List.mem_of_getElem? (i := 1014) (by decide +kernel), List.mem_of_getElem? (i := 1015) (by decide +kernel)⟩
theorem lw_p46 : lw_okq (⟨"BladeDeskModel", "growBy", "(I)V"⟩, 24) := ⟨⟨by decide +kernel, by decide +kernel⟩, List.mem_of_getElem? (i := 842) (by decide +kernel), List.mem_of_getElem? (i := 1018) (by decide +kernel), List.mem_of_getElem? (i := 1019) (by decide +kernel)⟩
theorem lw_p47 : lw_okq (⟨"BladeDeskModel", "keepOr", "(III)I"⟩, 24) := ⟨⟨by decide +kernel, by decide +kernel⟩, List.mem_of_getElem? (i := 842) (by decide +kernel), List.mem_of_getElem? (i := 1022) (by decide +kernel), List.mem_of_getElem? (i := 1023) (by decide +kernel)⟩
def lw_privs_3 : List (MethodName × Nat) := [(⟨"BladeDeskModel", "layPlain", "()V"⟩, 24), (⟨"BladeDeskModel", "fails", "(I)I"⟩, 24), (⟨"BladeDeskModel", "save", "()V"⟩, 24), (⟨"BladeDeskModel", "isDirection", "(I)Z"⟩, 24), (⟨"BladeDeskModel", "isBlade", "(I)Z"⟩, 24), (⟨"BladeDeskModel", "blades", "()I"⟩, 24), (⟨"BladeDeskModel", "at", "(II)I"⟩, 24), (⟨"BladeDeskModel", "layBy", "(III)V"⟩, 24), (⟨"BladeDeskModel", "laySlots", "(II)V"⟩, 24), (⟨"BladeDeskModel", "layWedge", "()V"⟩, 24), (⟨"BladeDeskModel", "layContraction", "()V"⟩, 24), (⟨"BladeDeskModel", "signOf", "(I)I"⟩, 24), (⟨"BladeDeskModel", "layPush", "()V"⟩, 24), (⟨"BladeDeskModel", "layGrown", "(I)V"⟩, 24), (⟨"BladeDeskModel", "growBy", "(I)V"⟩, 24), (⟨"BladeDeskModel", "keepOr", "(III)I"⟩, 24)]
theorem lw_r3 : ∀ q ∈ lw_privs_3, lw_okq q := List.forall_mem_cons.mpr ⟨lw_p32, List.forall_mem_cons.mpr ⟨lw_p33, List.forall_mem_cons.mpr ⟨lw_p34, List.forall_mem_cons.mpr ⟨lw_p35, List.forall_mem_cons.mpr ⟨lw_p36, List.forall_mem_cons.mpr ⟨lw_p37, List.forall_mem_cons.mpr ⟨lw_p38, List.forall_mem_cons.mpr ⟨lw_p39, List.forall_mem_cons.mpr ⟨lw_p40, List.forall_mem_cons.mpr ⟨lw_p41, List.forall_mem_cons.mpr ⟨lw_p42, List.forall_mem_cons.mpr ⟨lw_p43, List.forall_mem_cons.mpr ⟨lw_p44, List.forall_mem_cons.mpr ⟨lw_p45, List.forall_mem_cons.mpr ⟨lw_p46, List.forall_mem_cons.mpr ⟨lw_p47, fun _ h => absurd h List.not_mem_nil⟩⟩⟩⟩⟩⟩⟩⟩⟩⟩⟩⟩⟩⟩⟩⟩
theorem lw_p48 : lw_okq (⟨"BladeDeskModel", "beyond", "()I"⟩, 24) := ⟨⟨by decide +kernel, by decide +kernel⟩, List.mem_of_getElem? (i := 842) (by decide +kernel), List.mem_of_getElem? (i := 1026) (by decide +kernel), List.mem_of_getElem? (i := 1027) (by decide +kernel)⟩
theorem lw_p49 : lw_okq (⟨"BladeDeskModel", "keep", "(II)I"⟩, 24) := ⟨⟨by decide +kernel, by decide +kernel⟩, List.mem_of_getElem? (i := 842) (by decide +kernel), List.mem_of_getElem? (i := 1033) (by decide +kernel), List.mem_of_getElem? (i := 1034) (by decide +kernel)⟩
theorem lw_p50 : lw_okq (⟨"BladeDeskModel", "many", "(I)I"⟩, 24) := ⟨⟨by decide +kernel, by decide +kernel⟩, List.mem_of_getElem? (i := 842) (by decide +kernel), List.mem_of_getElem? (i := 1037) (by decide +kernel), List.mem_of_getElem? (i := 1038) (by decide +kernel)⟩
theorem lw_p51 : lw_okq (⟨"BladeDeskModel", "read", "()V"⟩, 24) := ⟨⟨by decide +kernel, by decide +kernel⟩, List.mem_of_getElem? (i := 842) (by decide +kernel), List.mem_of_getElem? (i := 1081) (by decide +kernel), List.mem_of_getElem? (i := 1082) (by decide +kernel)⟩
theorem lw_p52 : lw_okq (⟨"BladeDeskModel", "nextState", "(II)I"⟩, 24) := ⟨⟨by decide +kernel, by decide +kernel⟩, List.mem_of_getElem? (i := 842) (by decide +kernel), List.mem_of_getElem? (i := 1085) (by decide +kernel), List.mem_of_getElem? (i := 1086) (by decide +kernel)⟩
theorem lw_p53 : lw_okq (⟨"BladeDeskModel", "beginTerm", "(I)I"⟩, 24) := ⟨⟨by decide +kernel, by decide +kernel⟩, List.mem_of_getElem? (i := 842) (by decide +kernel), List.mem_of_getElem? (i := 1089) (by decide +kernel), List.mem_of_getElem? (i := 1090) (by decide +kernel)⟩
theorem lw_p54 : lw_okq (⟨"BladeDeskModel", "endTerm", "(I)I"⟩, 24) := ⟨⟨by decide +kernel, by decide +kernel⟩, List.mem_of_getElem? (i := 842) (by decide +kernel), List.mem_of_getElem? (i := 1093) (by decide +kernel), List.mem_of_getElem? (i := 1094) (by decide +kernel)⟩
theorem lw_p55 : lw_okq (⟨"BladeDeskModel", "addTerm", "()V"⟩, 24) := ⟨⟨by decide +kernel, by decide +kernel⟩, List.mem_of_getElem? (i := 842) (by decide +kernel), List.mem_of_getElem? (i := 1097) (by decide +kernel), List.mem_of_getElem? (i := 1098) (by decide +kernel)⟩
theorem lw_p56 : lw_okq (⟨"BladeDeskModel", "forms", "()I"⟩, 24) := ⟨⟨by decide +kernel, by decide +kernel⟩, List.mem_of_getElem? (i := 842) (by decide +kernel), List.mem_of_getElem? (i := 1112) (by decide +kernel), List.mem_of_getElem? (i := 1113) (by decide +kernel)⟩
theorem lw_p57 : lw_okq (⟨"BladeDeskModel", "formOf", "(II)I"⟩, 24) := ⟨⟨by decide +kernel, by decide +kernel⟩, List.mem_of_getElem? (i := 842) (by decide +kernel), List.mem_of_getElem? (i := 1132) (by decide +kernel), List.mem_of_getElem? (i := 1133) (by decide +kernel)⟩
theorem lw_p58 : lw_okq (⟨"BladeDeskModel", "gradeOf", "(I)I"⟩, 24) := ⟨⟨by decide +kernel, by decide +kernel⟩, List.mem_of_getElem? (i := 842) (by decide +kernel), List.mem_of_getElem? (i := 1136) (by decide +kernel), List.mem_of_getElem? (i := 1137) (by decide +kernel)⟩
theorem lw_p59 : lw_okq (⟨"BladeDeskModel", "lowest", "(I)I"⟩, 24) := ⟨⟨by decide +kernel, by decide +kernel⟩, List.mem_of_getElem? (i := 842) (by decide +kernel), List.mem_of_getElem? (i := 1140) (by decide +kernel), List.mem_of_getElem? (i := 1141) (by decide +kernel)⟩
theorem lw_p60 : lw_okq (⟨"BladeDeskModel", "highest", "(I)I"⟩, 24) := ⟨⟨by decide +kernel, by decide +kernel⟩, List.mem_of_getElem? (i := 842) (by decide +kernel), List.mem_of_getElem? (i := 1144) (by decide +kernel), List.mem_of_getElem? (i := 1145) (by decide +kernel)⟩
theorem lw_p61 : lw_okq (⟨"BladeDeskModel", "greatest", "(I)I"⟩, 24) := ⟨⟨by decide +kernel, by decide +kernel⟩, List.mem_of_getElem? (i := 842) (by decide +kernel), List.mem_of_getElem? (i := 1148) (by decide +kernel), List.mem_of_getElem? (i := 1149) (by decide +kernel)⟩
theorem lw_p62 : lw_okq (⟨"BladeDeskModel", "lead", "(I)I"⟩, 24) := ⟨⟨by decide +kernel, by decide +kernel⟩, List.mem_of_getElem? (i := 842) (by decide +kernel), List.mem_of_getElem? (i := 1152) (by decide +kernel), List.mem_of_getElem? (i := 1153) (by decide +kernel)⟩
theorem lw_p63 : lw_okq (⟨"BladeDeskModel", "directions", "(I)I"⟩, 24) := ⟨⟨by decide +kernel, by decide +kernel⟩, List.mem_of_getElem? (i := 842) (by decide +kernel), List.mem_of_getElem? (i := 1156) (by decide +kernel), List.mem_of_getElem? (i := 1157) (by decide +kernel)⟩
def lw_privs_4 : List (MethodName × Nat) := [(⟨"BladeDeskModel", "beyond", "()I"⟩, 24), (⟨"BladeDeskModel", "keep", "(II)I"⟩, 24), (⟨"BladeDeskModel", "many", "(I)I"⟩, 24), (⟨"BladeDeskModel", "read", "()V"⟩, 24), (⟨"BladeDeskModel", "nextState", "(II)I"⟩, 24), (⟨"BladeDeskModel", "beginTerm", "(I)I"⟩, 24), (⟨"BladeDeskModel", "endTerm", "(I)I"⟩, 24), (⟨"BladeDeskModel", "addTerm", "()V"⟩, 24), (⟨"BladeDeskModel", "forms", "()I"⟩, 24), (⟨"BladeDeskModel", "formOf", "(II)I"⟩, 24), (⟨"BladeDeskModel", "gradeOf", "(I)I"⟩, 24), (⟨"BladeDeskModel", "lowest", "(I)I"⟩, 24), (⟨"BladeDeskModel", "highest", "(I)I"⟩, 24), (⟨"BladeDeskModel", "greatest", "(I)I"⟩, 24), (⟨"BladeDeskModel", "lead", "(I)I"⟩, 24), (⟨"BladeDeskModel", "directions", "(I)I"⟩, 24)]
theorem lw_r4 : ∀ q ∈ lw_privs_4, lw_okq q := List.forall_mem_cons.mpr ⟨lw_p48, List.forall_mem_cons.mpr ⟨lw_p49, List.forall_mem_cons.mpr ⟨lw_p50, List.forall_mem_cons.mpr ⟨lw_p51, List.forall_mem_cons.mpr ⟨lw_p52, List.forall_mem_cons.mpr ⟨lw_p53, List.forall_mem_cons.mpr ⟨lw_p54, List.forall_mem_cons.mpr ⟨lw_p55, List.forall_mem_cons.mpr ⟨lw_p56, List.forall_mem_cons.mpr ⟨lw_p57, List.forall_mem_cons.mpr ⟨lw_p58, List.forall_mem_cons.mpr ⟨lw_p59, List.forall_mem_cons.mpr ⟨lw_p60, List.forall_mem_cons.mpr ⟨lw_p61, List.forall_mem_cons.mpr ⟨lw_p62, List.forall_mem_cons.mpr ⟨lw_p63, fun _ h => absurd h List.not_mem_nil⟩⟩⟩⟩⟩⟩⟩⟩⟩⟩⟩⟩⟩⟩⟩⟩
theorem lw_p64 : lw_okq (⟨"BladeDeskModel", "innerOf", "(II)J"⟩, 24) := ⟨⟨by decide +kernel, by decide +kernel⟩, List.mem_of_getElem? (i := 842) (by decide +kernel), List.mem_of_getElem? (i := 1164) (by decide +kernel), List.mem_of_getElem? (i := 1165) (by decide +kernel)⟩
theorem lw_p65 : lw_okq (⟨"BladeDeskModel", "decomposableOf", "(II)I"⟩, 24) := ⟨⟨by decide +kernel, by decide +kernel⟩, List.mem_of_getElem? (i := 842) (by decide +kernel), List.mem_of_getElem? (i := 1172) (by decide +kernel), List.mem_of_getElem? (i := 1173) (by decide +kernel)⟩
theorem lw_p66 : lw_okq (⟨"BladeDeskModel", "isPure", "(II)Z"⟩, 24) := ⟨⟨by decide +kernel, by decide +kernel⟩, List.mem_of_getElem? (i := 842) (by decide +kernel), List.mem_of_getElem? (i := 1176) (by decide +kernel), List.mem_of_getElem? (i := 1177) (by decide +kernel)⟩
theorem lw_p67 : lw_okq (⟨"BladeDeskModel", "vector", "(III)J"⟩, 24) := ⟨⟨by decide +kernel, by decide +kernel⟩, List.mem_of_getElem? (i := 842) (by decide +kernel), List.mem_of_getElem? (i := 1180) (by decide +kernel), List.mem_of_getElem? (i := 1181) (by decide +kernel)⟩
theorem lw_p68 : lw_okq (⟨"BladeDeskModel", "isResultEmpty", "()Z"⟩, 24) := ⟨⟨by decide +kernel, by decide +kernel⟩, List.mem_of_getElem? (i := 842) (by decide +kernel), List.mem_of_getElem? (i := 1184) (by decide +kernel), List.mem_of_getElem? (i := 1185) (by decide +kernel)⟩
theorem lw_p69 : lw_okq (⟨"BladeDeskModel", "annihilatorOf", "(I)I"⟩, 24) := ⟨⟨by decide +kernel, by decide +kernel⟩, List.mem_of_getElem? (i := 842) (by decide +kernel), List.mem_of_getElem? (i := 1188) (by decide +kernel), List.mem_of_getElem? (i := 1189) (by decide +kernel)⟩
theorem lw_p70 : lw_okq (⟨"BladeDeskModel", "isAnnihilatorTold", "(I)Z"⟩, 24) := ⟨⟨by decide +kernel, by decide +kernel⟩, List.mem_of_getElem? (i := 842) (by decide +kernel), List.mem_of_getElem? (i := 1192) (by decide +kernel), List.mem_of_getElem? (i := 1193) (by decide +kernel)⟩
theorem lw_p71 : lw_okq (⟨"BladeDeskModel", "solve", "(I)V"⟩, 24) := ⟨⟨by decide +kernel, by decide +kernel⟩, List.mem_of_getElem? (i := 842) (by decide +kernel), List.mem_of_getElem? (i := 1196) (by decide +kernel), List.mem_of_getElem? (i := 1197) (by decide +kernel)⟩
theorem lw_p72 : lw_okq (⟨"BladeDeskModel", "layLines", "(I)V"⟩, 24) := ⟨⟨by decide +kernel, by decide +kernel⟩, List.mem_of_getElem? (i := 842) (by decide +kernel), List.mem_of_getElem? (i := 1200) (by decide +kernel), List.mem_of_getElem? (i := 1201) (by decide +kernel)⟩
theorem lw_p73 : lw_okq (⟨"BladeDeskModel", "exchange", "(II)V"⟩, 24) := ⟨⟨by decide +kernel, by decide +kernel⟩, List.mem_of_getElem? (i := 842) (by decide +kernel), List.mem_of_getElem? (i := 1204) (by decide +kernel), List.mem_of_getElem? (i := 1205) (by decide +kernel)⟩
theorem lw_p74 : lw_okq (⟨"BladeDeskModel", "clearColumn", "(IJ)V"⟩, 24) := ⟨⟨by decide +kernel, by decide +kernel⟩, List.mem_of_getElem? (i := 842) (by decide +kernel), List.mem_of_getElem? (i := 1208) (by decide +kernel), List.mem_of_getElem? (i := 1209) (by decide +kernel)⟩
theorem lw_p75 : lw_okq (⟨"BladeDeskModel", "factors", "(I)I"⟩, 24) := ⟨⟨by decide +kernel, by decide +kernel⟩, List.mem_of_getElem? (i := 842) (by decide +kernel), List.mem_of_getElem? (i := 1216) (by decide +kernel), List.mem_of_getElem? (i := 1217) (by decide +kernel)⟩
theorem lw_p76 : lw_okq (⟨"BladeDeskModel", "factorOf", "(III)I"⟩, 24) := ⟨⟨by decide +kernel, by decide +kernel⟩, List.mem_of_getElem? (i := 842) (by decide +kernel), List.mem_of_getElem? (i := 1220) (by decide +kernel), List.mem_of_getElem? (i := 1221) (by decide +kernel)⟩
theorem lw_p77 : lw_okq (⟨"BladeDeskModel", "basisOf", "(II)I"⟩, 24) := ⟨⟨by decide +kernel, by decide +kernel⟩, List.mem_of_getElem? (i := 842) (by decide +kernel), List.mem_of_getElem? (i := 1232) (by decide +kernel), List.mem_of_getElem? (i := 1233) (by decide +kernel)⟩
theorem lw_p78 : lw_okq (⟨"BladeDeskModel", "headOf", "(I)I"⟩, 24) := ⟨⟨by decide +kernel, by decide +kernel⟩, List.mem_of_getElem? (i := 842) (by decide +kernel), List.mem_of_getElem? (i := 1236) (by decide +kernel), List.mem_of_getElem? (i := 1237) (by decide +kernel)⟩
theorem lw_p79 : lw_okq (⟨"BladeDeskModel", "rawOf", "(II)J"⟩, 24) := ⟨⟨by decide +kernel, by decide +kernel⟩, List.mem_of_getElem? (i := 842) (by decide +kernel), List.mem_of_getElem? (i := 1240) (by decide +kernel), List.mem_of_getElem? (i := 1241) (by decide +kernel)⟩
def lw_privs_5 : List (MethodName × Nat) := [(⟨"BladeDeskModel", "innerOf", "(II)J"⟩, 24), (⟨"BladeDeskModel", "decomposableOf", "(II)I"⟩, 24), (⟨"BladeDeskModel", "isPure", "(II)Z"⟩, 24), (⟨"BladeDeskModel", "vector", "(III)J"⟩, 24), (⟨"BladeDeskModel", "isResultEmpty", "()Z"⟩, 24), (⟨"BladeDeskModel", "annihilatorOf", "(I)I"⟩, 24), (⟨"BladeDeskModel", "isAnnihilatorTold", "(I)Z"⟩, 24), (⟨"BladeDeskModel", "solve", "(I)V"⟩, 24), (⟨"BladeDeskModel", "layLines", "(I)V"⟩, 24), (⟨"BladeDeskModel", "exchange", "(II)V"⟩, 24), (⟨"BladeDeskModel", "clearColumn", "(IJ)V"⟩, 24), (⟨"BladeDeskModel", "factors", "(I)I"⟩, 24), (⟨"BladeDeskModel", "factorOf", "(III)I"⟩, 24), (⟨"BladeDeskModel", "basisOf", "(II)I"⟩, 24), (⟨"BladeDeskModel", "headOf", "(I)I"⟩, 24), (⟨"BladeDeskModel", "rawOf", "(II)J"⟩, 24)]
theorem lw_r5 : ∀ q ∈ lw_privs_5, lw_okq q := List.forall_mem_cons.mpr ⟨lw_p64, List.forall_mem_cons.mpr ⟨lw_p65, List.forall_mem_cons.mpr ⟨lw_p66, List.forall_mem_cons.mpr ⟨lw_p67, List.forall_mem_cons.mpr ⟨lw_p68, List.forall_mem_cons.mpr ⟨lw_p69, List.forall_mem_cons.mpr ⟨lw_p70, List.forall_mem_cons.mpr ⟨lw_p71, List.forall_mem_cons.mpr ⟨lw_p72, List.forall_mem_cons.mpr ⟨lw_p73, List.forall_mem_cons.mpr ⟨lw_p74, List.forall_mem_cons.mpr ⟨lw_p75, List.forall_mem_cons.mpr ⟨lw_p76, List.forall_mem_cons.mpr ⟨lw_p77, List.forall_mem_cons.mpr ⟨lw_p78, List.forall_mem_cons.mpr ⟨lw_p79, fun _ h => absurd h List.not_mem_nil⟩⟩⟩⟩⟩⟩⟩⟩⟩⟩⟩⟩⟩⟩⟩⟩
theorem lw_p80 : lw_okq (⟨"BladeDeskModel", "refusedOf", "(III)I"⟩, 24) := ⟨⟨by decide +kernel, by decide +kernel⟩, List.mem_of_getElem? (i := 842) (by decide +kernel), List.mem_of_getElem? (i := 1251) (by decide +kernel), List.mem_of_getElem? (i := 1252) (by decide +kernel)⟩
theorem lw_p81 : lw_okq (⟨"BladeDeskModel", "compareOf", "(II)I"⟩, 24) := ⟨⟨by decide +kernel, by decide +kernel⟩, List.mem_of_getElem? (i := 842) (by decide +kernel), List.mem_of_getElem? (i := 1259) (by decide +kernel), List.mem_of_getElem? (i := 1260) (by decide +kernel)⟩
theorem lw_p82 : lw_okq (⟨"BladeDeskModel", "counted", "(I)I"⟩, 24) := ⟨⟨by decide +kernel, by decide +kernel⟩, List.mem_of_getElem? (i := 842) (by decide +kernel), List.mem_of_getElem? (i := 1267) (by decide +kernel), List.mem_of_getElem? (i := 1268) (by decide +kernel)⟩
theorem lw_p83 : lw_okq (⟨"BladeDeskModel", "densityOf", "(I)F"⟩, 24) := ⟨⟨by decide +kernel, by decide +kernel⟩, List.mem_of_getElem? (i := 842) (by decide +kernel), List.mem_of_getElem? (i := 1279) (by decide +kernel), List.mem_of_getElem? (i := 1280) (by decide +kernel)⟩
theorem lw_p84 : lw_okq (⟨"BladeDeskModel", "shareOf", "(II)D"⟩, 24) := ⟨⟨by decide +kernel, by decide +kernel⟩, List.mem_of_getElem? (i := 842) (by decide +kernel), List.mem_of_getElem? (i := 1287) (by decide +kernel), List.mem_of_getElem? (i := 1288) (by decide +kernel)⟩
theorem lw_p85 : lw_okq (⟨"BladeDeskModel", "mix", "(J)V"⟩, 24) := ⟨⟨by decide +kernel, by decide +kernel⟩, List.mem_of_getElem? (i := 842) (by decide +kernel), List.mem_of_getElem? (i := 1296) (by decide +kernel), List.mem_of_getElem? (i := 1297) (by decide +kernel)⟩
theorem lw_p86 : lw_okq (⟨"BladeDeskModel", "mixSlot", "(I)V"⟩, 24) := ⟨⟨by decide +kernel, by decide +kernel⟩, List.mem_of_getElem? (i := 842) (by decide +kernel), List.mem_of_getElem? (i := 1301) (by decide +kernel), List.mem_of_getElem? (i := 1302) (by decide +kernel)⟩
def lw_privs_6 : List (MethodName × Nat) := [(⟨"BladeDeskModel", "refusedOf", "(III)I"⟩, 24), (⟨"BladeDeskModel", "compareOf", "(II)I"⟩, 24), (⟨"BladeDeskModel", "counted", "(I)I"⟩, 24), (⟨"BladeDeskModel", "densityOf", "(I)F"⟩, 24), (⟨"BladeDeskModel", "shareOf", "(II)D"⟩, 24), (⟨"BladeDeskModel", "mix", "(J)V"⟩, 24), (⟨"BladeDeskModel", "mixSlot", "(I)V"⟩, 24)]
theorem lw_r6 : ∀ q ∈ lw_privs_6, lw_okq q := List.forall_mem_cons.mpr ⟨lw_p80, List.forall_mem_cons.mpr ⟨lw_p81, List.forall_mem_cons.mpr ⟨lw_p82, List.forall_mem_cons.mpr ⟨lw_p83, List.forall_mem_cons.mpr ⟨lw_p84, List.forall_mem_cons.mpr ⟨lw_p85, List.forall_mem_cons.mpr ⟨lw_p86, fun _ h => absurd h List.not_mem_nil⟩⟩⟩⟩⟩⟩⟩
def lw_privs : List (MethodName × Nat) := lw_privs_1 ++ (lw_privs_2 ++ (lw_privs_3 ++ (lw_privs_4 ++ (lw_privs_5 ++ (lw_privs_6)))))
def lw_tbl : List Cond := k2_sels lw_privs ++ tables_1
theorem lw_privs_ok : ∀ q ∈ lw_privs, lw_okq q := by
  show ∀ q ∈ lw_privs_1 ++ (lw_privs_2 ++ (lw_privs_3 ++ (lw_privs_4 ++ (lw_privs_5 ++ (lw_privs_6))))), lw_okq q
  exact List.forall_mem_append.mpr ⟨lw_r1, List.forall_mem_append.mpr ⟨lw_r2, List.forall_mem_append.mpr ⟨lw_r3, List.forall_mem_append.mpr ⟨lw_r4, List.forall_mem_append.mpr ⟨lw_r5, lw_r6⟩⟩⟩⟩⟩
/-- the streams that the claim lets the run draw from -/
abbrev lw_cs : List Choice := [Jvm.Choice.named "NaN.bits"]
theorem lw_bits : nanBits ∈ lw_cs := by first | decide | exact List.mem_cons_self | simp [lw_cs, nanBits]
-- ===== end of PART A; then your names; then what follows =====
end
section
/-! ===== BEGIN words of one list among another's, by their places ===== -/
theorem goodIn_r {big : List Cond} (ws : List Cond) (ps : List Nat) (hp : ws = ps.filterMap (fun i => big[i]?)) (h : ws.all goodWord = true) : GoodIn big ws := by
  intro w hw
  have h1 := List.all_eq_true.mp h w hw
  rw [hp] at hw
  obtain ⟨i, -, hi⟩ := List.mem_filterMap.mp hw
  have hm : w ∈ big := by first | exact List.mem_of_getElem? hi | exact List.getElem?_mem hi
  exact ⟨hm, good_of_word h1⟩
theorem goodIn_app {big a b : List Cond} (ha : GoodIn big a) (hb : GoodIn big b) : GoodIn big (a ++ b) := fun w h => (List.mem_append.mp h).elim (ha w) (hb w)
theorem goodIn_ca {big a b : List Cond} {c : Cond} (ha : GoodIn big (c :: a)) (hb : GoodIn big b) : GoodIn big (c :: (a ++ b)) := fun w h => (List.mem_cons.mp h).elim (fun e => ha w (List.mem_cons.mpr (Or.inl e))) (fun h => (List.mem_append.mp h).elim (fun h => ha w (List.mem_cons.mpr (Or.inr h))) (hb w))
theorem goodIn_sub {big ws : List Cond} (hm : ∀ w ∈ ws, w ∈ big) (h : ws.all goodWord = true) : GoodIn big ws := fun w hw => ⟨hm w hw, good_of_word (List.all_eq_true.mp h w hw)⟩
/-! ===== END ===== -/

/-! ===== BEGIN new T[n][m]: the outer array a place, the inner ones among the pooled ===== -/
/-- f, but v at every address of l -/
def vr_up {α : Type} (f : Nat → α) (l : List Nat) (v : α) : Nat → α := fun a => if a ∈ l then v else f a
theorem vr_up_in {α : Type} {f : Nat → α} {l : List Nat} {v : α} {a : Nat} (h : a ∈ l) : vr_up f l v a = v := if_pos h
theorem vr_up_ne {α : Type} {f : Nat → α} {l : List Nat} {v : α} {a : Nat} (h : a ∉ l) : vr_up f l v a = f a := if_neg h
theorem vr_rows {L l : List Nat} {f : Nat → va_E} {e : va_E} (h : ∀ a, a ∈ l → a ∉ L) : va_pl L f ++ l.map (fun a => (a, e)) = va_pl (L ++ l) (vr_up f l e) := by
  unfold va_pl
  rw [List.map_append]
  congr 1
  · apply List.map_congr_left
    intro a ha
    rw [vr_up_ne (fun q => h a q ha)]
  · apply List.map_congr_left
    intro a ha
    rw [vr_up_in ha]
theorem vr_lay {X rows : va_W} {x : Nat × va_E} {pl : va_W} {D : va_G} {cl : List vw_C} {H : Heap} (hP : va_P D cl (((X ++ pl) ++ [x]) ++ rows) H) : va_P D cl ((X ++ [x]) ++ (pl ++ rows)) H := by
  rw [List.append_assoc (X ++ pl)] at hP
  have h := va_P.swap hP
  rw [← List.append_assoc X] at h
  have h2 := va_P.swap h
  rw [List.append_assoc (X ++ [x])] at h2
  exact h2
theorem vr_layD {X rows : va_W} {x : Nat × va_E} {pl : va_W} {A : Nat → Prop} (hD : va_D A (((X ++ pl) ++ [x]) ++ rows)) : va_D A ((X ++ [x]) ++ (pl ++ rows)) := by
  rw [List.append_assoc (X ++ pl)] at hD
  have h := va_D.swap hD
  rw [← List.append_assoc X] at h
  have h2 := va_D.swap h
  rw [List.append_assoc (X ++ [x])] at h2
  exact h2
theorem vr_outer (c : ClassId) (N h0 : Nat) : ∀ i : Nat, Jvm.Free.Multi.outerC c N h0 i = arrV c N (fun j => va_rf (if j < i then some (h0 + 1 + j) else none))
  | 0 => by
    show ({ cls := c, slots := Array.replicate N .null, vm := .none } : Cell) = _
    rw [arrV_new]
    refine congrArg (arrV c N) (funext fun j => ?_)
    simp [va_rf]
  | i + 1 => by
    show (Jvm.Free.Multi.outerC c N h0 i).setSlot i (.ref (h0 + 1 + i)) = _
    rw [vr_outer c N h0 i, arrV_store]
    refine congrArg (arrV c N) (funext fun j => ?_)
    by_cases e : j = i
    · subst e
      simp [updV, va_rf]
    · by_cases h : j < i
      · simp [updV, e, h, Nat.lt_succ_of_lt h]
      · simp [updV, e, h, show ¬ j < i + 1 by omega]
def va_AOA (ty : FieldType) (U : State) : Prop := (Cond.arrayOver (.array ty)).before #[] U = true
theorem va_AOA.use {ty : FieldType} {A : Array Value} {U : State} (h : va_AOA ty U) : (Cond.arrayOver (.array ty)).before A U = true := h
theorem va_AOA.of {ty : FieldType} {A : Array Value} {U : State} (h : (Cond.arrayOver (.array ty)).before A U = true) : va_AOA ty U := h
section VGM
variable {p : Program} {l : Launch} {e : Env} {R : Room} {s : State} {m : MethodId} {args : Array Value} {below : List Frame} {meth : Method} {c : Code} {H : Heap} {locs : List Loc} {cells slots : Nat} {Q : State → Prop}
variable {cc : ByteArray} {pc : Nat} {ls : Array Slot} {rest : List Value} {D : va_G} {cl : List vw_C} {A : Nat → Prop} {a : Nat} {tys : List (ClassId × FieldType)} {ws : va_W} {H0 : Heap}
theorem va_mna {X : va_W} {L : List Nat} {f : Nat → va_E} {cc : ByteArray} (hexec : p.tables.exec = Jvm.exec) (hb : c.code = cc) {own : String} {index : Nat} {ty : FieldType} {cy : ClassId} (hown : s.vm.findClass own = some m.cls) (hclink : (Cond.classLink own index ("[" ++ (FieldType.array ty).toString)).before args s = true) (hover : va_AOA ty s) (harr : (Cond.arrayClass ty).before args s = true) (hcy : s.vm.findClass (FieldType.array ty).toString = some cy)
    (hK : va_K D cl tys s) (hP : va_P D cl (X ++ va_pl L f) H) (hD : va_D A (X ++ va_pl L f)) (hS : va_S A H0 H locs) (hA : ∀ q, H0.size ≤ q → A q) {n k : Int32} {N' K' : Nat} {z : vp_A} (hn : ¬ n < 0) (hk : ¬ k < 0) (hN : n.toNatClampNeg = N') (hM : k.toNatClampNeg = K')
    (hb1 : N' * 4 ≤ 536870912) (hb2 : K' * componentBytes ty ≤ 536870912) (hb3 : K' ≤ 536870912) (hdf : fits ty (defaultValue ty) = true) (hdd : (defaultValue ty).isDefault = true) (hcells : cells + (1 + N') ≤ R.cells) (hslots : slots + (N' + N' * K') ≤ R.slots) (hz : ∀ c : ClassId, Jvm.Free.Multi.innerC c K' (defaultValue ty) = vp_cell c z) (hdg : decode cc pc = .ok (.multianewarray index 2, 4))
    (kk : ∀ (q : Nat) (r : Nat → Nat) (cA : ClassId) (H1 : Heap), (∀ i j : Nat, i < N' → j < N' → r i = r j → i = j) → (∀ i : Nat, i < N' → r i ∉ L) → va_K D cl (tys ++ [(cA, .array ty)]) s →
      va_P D cl ((X ++ [(q, .inl (cA, N', .inr (.inr (.inr (.inr (fun i => if i < N' then some (r i) else none))))))]) ++ va_pl (L ++ (List.range N').map r) (vr_up f ((List.range N').map r) (.inl (cy, z)))) H1 → va_D A ((X ++ [(q, .inl (cA, N', .inr (.inr (.inr (.inr (fun i => if i < N' then some (r i) else none))))))]) ++ va_pl (L ++ (List.range N').map r) (vr_up f ((List.range N').map r) (.inl (cy, z)))) → va_S A H0 H1 locs →
      W p l e R s m args below meth c H1 locs (cells + 1 + N') (slots + N' + N' * K') Q (F0 m (pc + 4) ls (.ref q :: rest))) : W p l e R s m args below meth c H locs cells slots Q (F0 m pc ls (.int k :: .int n :: rest)) := by
  subst hN
  subst hM
  intro T hT Xs
  obtain ⟨vm₁, cA, comp, -, fA, fC, hO, -, X', step⟩ := Xs.multianewarray2F hexec hown hclink (va_AOA.use hover) harr (g := F0 m pc ls (.int k :: .int n :: rest)) rfl (by rw [hb]; exact hdg) rfl hn hk hb1 hb2 hb3 hdf hdd hcells hslots
  have ec : some cy = some comp := hcy.symm.trans fC
  cases ec
  generalize hF : Jvm.Free.Multi.fill (T.setVm vm₁) cA cy n.toNatClampNeg k.toNatClampNeg (defaultValue ty) n.toNatClampNeg = F at X' step
  have hTh : (T.setVm vm₁).heap = H := hT
  obtain ⟨f1, f2, -, -⟩ := Jvm.Free.Multi.fill_facts (T.setVm vm₁) cA cy n.toNatClampNeg k.toNatClampNeg (defaultValue ty) n.toNatClampNeg
  rw [hF, hTh] at f1 f2
  have hold : ∀ x : Nat, x < H.size → F.heap[x]? = H[x]? := fun x hx => by
    have := Jvm.Free.Multi.fill_old (T.setVm vm₁) cA cy n.toNatClampNeg k.toNatClampNeg (defaultValue ty) (a := x) (by rw [hTh]; exact hx) n.toNatClampNeg
    rw [hF, hTh] at this
    exact this
  have hrow : ∀ j : Nat, j < n.toNatClampNeg → F.heap[H.size + 1 + j]? = some (vp_cell cy z) := fun j hj => by
    have := Jvm.Free.Multi.fill_inner (T.setVm vm₁) cA cy n.toNatClampNeg k.toNatClampNeg (defaultValue ty) n.toNatClampNeg j hj
    rw [hF, hTh, hz] at this
    exact this
  have hout : Jvm.Free.Multi.outerC cA n.toNatClampNeg H.size n.toNatClampNeg = vp_cell cA (n.toNatClampNeg, .inr (.inr (.inr (.inr (fun i => if i < n.toNatClampNeg then some (H.size + 1 + i) else none))))) := by
    rw [vp_cell_q]
    exact vr_outer cA n.toNatClampNeg H.size n.toNatClampNeg
  rw [hout] at f2
  have hlt : ∀ a, a ∈ L → a < H.size := fun a ha => by
    obtain ⟨k9, hk9⟩ := va_pl_get (X := X) (f := f) ha
    exact (hP k9 _ hk9).lt
  have hnl : ∀ i : Nat, i < n.toNatClampNeg → H.size + 1 + i ∉ L := fun i _ h => by
    have := hlt _ h
    omega
  have hnm : ∀ a, a ∈ (List.range n.toNatClampNeg).map (fun i => H.size + 1 + i) → a ∉ L := fun a ha h => by
    obtain ⟨i, -, rfl⟩ := List.mem_map.mp ha
    have := hlt _ h
    omega
  have hP0 : va_P D cl (X ++ va_pl L f) F.heap := hP.kept (fun k9 x hx => hold x.1 ((hP k9 x hx).lt))
  have hP1 : va_P D cl ((X ++ va_pl L f) ++ [(H.size, .inl (cA, n.toNatClampNeg, .inr (.inr (.inr (.inr (fun i => if i < n.toNatClampNeg then some (H.size + 1 + i) else none))))))]) F.heap := hP0.app (fun k9 x hx => by
    have h0 : k9 < 1 := (List.getElem?_eq_some_iff.mp hx).1
    rw [show k9 = 0 by omega] at hx
    cases hx
    exact f2)
  have hP2 : va_P D cl (((X ++ va_pl L f) ++ [(H.size, .inl (cA, n.toNatClampNeg, .inr (.inr (.inr (.inr (fun i => if i < n.toNatClampNeg then some (H.size + 1 + i) else none))))))]) ++ ((List.range n.toNatClampNeg).map (fun i => H.size + 1 + i)).map (fun a => (a, .inl (cy, z)))) F.heap := hP1.app (fun k9 x hx => by
    obtain ⟨a, ha, rfl⟩ := List.mem_map.mp (List.mem_of_getElem? hx)
    obtain ⟨i, hi, rfl⟩ := List.mem_map.mp ha
    exact hrow i (List.mem_range.mp hi))
  have hD2 : va_D A (((X ++ va_pl L f) ++ [(H.size, .inl (cA, n.toNatClampNeg, .inr (.inr (.inr (.inr (fun i => if i < n.toNatClampNeg then some (H.size + 1 + i) else none))))))]) ++ ((List.range n.toNatClampNeg).map (fun i => H.size + 1 + i)).map (fun a => (a, .inl (cy, z)))) := by
    have hD1 := hD.push (e := .inl (cA, n.toNatClampNeg, .inr (.inr (.inr (.inr (fun i => if i < n.toNatClampNeg then some (H.size + 1 + i) else none)))))) hP rfl (hA _ hS.1)
    generalize hW1 : (X ++ va_pl L f) ++ [(H.size, .inl (cA, n.toNatClampNeg, .inr (.inr (.inr (.inr (fun i => if i < n.toNatClampNeg then some (H.size + 1 + i) else none))))))] = W1 at hD1 hP1 ⊢
    have hle : ∀ (k9 : Nat) (x : Nat × va_E), W1[k9]? = some x → x.1 ≤ H.size := fun k9 x hx => by
      rw [← hW1] at hx
      by_cases hl : k9 < (X ++ va_pl L f).length
      · rw [List.getElem?_append_left hl] at hx
        exact Nat.le_of_lt ((hP k9 x hx).lt)
      · rw [List.getElem?_append_right (by omega)] at hx
        have h0 : k9 - (X ++ va_pl L f).length < 1 := (List.getElem?_eq_some_iff.mp hx).1
        rw [show k9 - (X ++ va_pl L f).length = 0 by omega] at hx
        cases hx
        exact Nat.le_refl _
    have hr : ∀ (k9 : Nat) (x : Nat × va_E), (((List.range n.toNatClampNeg).map (fun i => H.size + 1 + i)).map (fun a => ((a, .inl (cy, z)) : Nat × va_E)))[k9]? = some x → x.1 = H.size + 1 + k9 := fun k9 x hx => by
      rw [List.getElem?_map, List.getElem?_map] at hx
      by_cases h9 : k9 < n.toNatClampNeg
      · rw [List.getElem?_range h9] at hx
        cases hx
        rfl
      · have hn0 : (List.range n.toNatClampNeg)[k9]? = none := List.getElem?_eq_none (by rw [List.length_range]; omega)
        rw [hn0] at hx
        cases hx
    refine ⟨fun i j x y hi hj hxy => ?_, fun k9 x hx => ?_⟩
    · by_cases h1 : i < W1.length <;> by_cases h2 : j < W1.length
      · rw [List.getElem?_append_left h1] at hi
        rw [List.getElem?_append_left h2] at hj
        exact hD1.1 i j x y hi hj hxy
      · rw [List.getElem?_append_left h1] at hi
        rw [List.getElem?_append_right (by omega)] at hj
        have := hle _ _ hi
        have := hr _ _ hj
        omega
      · rw [List.getElem?_append_right (by omega)] at hi
        rw [List.getElem?_append_left h2] at hj
        have := hle _ _ hj
        have := hr _ _ hi
        omega
      · rw [List.getElem?_append_right (by omega)] at hi hj
        have := hr _ _ hi
        have := hr _ _ hj
        omega
    · by_cases h1 : k9 < W1.length
      · rw [List.getElem?_append_left h1] at hx
        exact hD1.2 k9 x hx
      · rw [List.getElem?_append_right (by omega)] at hx
        have := hr _ _ hx
        exact hA _ (by have := hS.1; omega)
  have hAr : ArrOfT s cA (.array ty) := fun N9 z9 => by
    obtain ⟨-, k9, hk9, cm9, hkk9⟩ := (hO 0 0 0).1
    exact ⟨(fun q hq => by cases hq), k9, hk9, cm9, hkk9⟩
  have hK2 : va_K D cl (tys ++ [(cA, .array ty)]) s := ⟨hK.1, fun k9 x hx => by
    by_cases hl : k9 < tys.length
    · rw [List.getElem?_append_left hl] at hx
      exact hK.2 k9 x hx
    · rw [List.getElem?_append_right (by omega)] at hx
      have h0 : k9 - tys.length < 1 := (List.getElem?_eq_some_iff.mp hx).1
      rw [show k9 - tys.length = 0 by omega] at hx
      cases hx
      exact ⟨hAr, fA⟩⟩
  obtain ⟨t, a1, b1⟩ := kk H.size (fun i => H.size + 1 + i) cA F.heap (fun i j _ _ h => by have h9 : H.size + 1 + i = H.size + 1 + j := h; omega) hnl hK2 (by rw [← vr_rows hnm]; exact vr_lay hP2) (by rw [← vr_rows hnm]; exact vr_layD hD2) ⟨by rw [f1]; have := hS.1; omega, fun x h1 h2 => (hold x (Nat.lt_of_lt_of_le h1 hS.1)).trans (hS.2.1 x h1 h2), hS.2.2⟩ F rfl X'
  refine ⟨t, step t ?_, b1⟩
  have e : T.heap.size = H.size := by rw [hT]
  rw [e]
  exact a1
end VGM
/-! ===== END ===== -/

/-! ===== BEGIN exceptions that leave a method, and their catching by the caller (launches without stack traces) ===== -/
section VXA
/-! The laws vx_back, vx_callV, vx_callS, vx_callSW, vx_throw0, vx_throwS follow proofs of the library, with one case more: JvmDerived/Free/Laws.lean (Back.of_free), Shelf42/LK1.lean (callV, callS), Shelf/KitTraced.lean (throwNew0V, throwNewS). -/
/-- where a method has thrown q: the class by its name, the cell, what was written, the world -/
def vx_T (XC : String → State → State → Prop) (st : State) (q : Addr) (t : State) (mc ms : Nat) (free : Addr → Prop) : Prop :=
  ∃ (E : String) (ce : Cell) (L : List Loc), XC E st t ∧ t.heap[q]? = some ce ∧ ce.vm = .none ∧ st.vm.findClass E = some ce.cls ∧ st.WarmedH t.vm ∧ st.sameButNew ({ t with vm := st.vm } : State) L mc ms ∧ ∀ z ∈ L, free z.base
def vx_Q (Qc : Array Value → State → Outcome → State → Prop) (XC : String → State → State → Prop) (mc ms : Nat) (free : Addr → Prop) : Array Value → State → Outcome → State → Prop := fun a st o t =>
  (Qc a st o t ∧ ∃ L, FrameEnd st o t L mc ms ∧ ∀ q ∈ L, free q.base) ∨ ∃ q, o = .threw q ∧ vx_T XC st q t mc ms free
/-- a callee that returns or throws -/
def vx_Met (l : Launch) (y : MethodName) (ws : List Cond) (rm : Room) (Pc : Array Value → State → Prop) (Qc : Array Value → State → Outcome → State → Prop) (XC : String → State → State → Prop) (mc ms : Nat) (free : Addr → Prop) : Prop :=
  MetFree l y (headSpec ws rm) Pc (fun _ _ _ _ _ => True) (vx_Q Qc XC mc ms free)
def vx_Post (XC : String → State → State → Prop) (mc ms : Nat) (free : Addr → Prop) : Pt → Array Value → Addr → Pt → Prop := fun A a q B =>
  ∃ (g : JFrame) (mk : MethodId) (t : State) (L : List Loc) (E : String) (ce : Cell), B.U.heap = t.heap ∧ B.U.vm = t.vm ∧ XC E (A.U.calling g mk a) t ∧ t.heap[q]? = some ce ∧ ce.vm = .none ∧ A.U.vm.findClass E = some ce.cls ∧ B.locs = A.locs ++ L ∧ (∀ z ∈ L, free z.base) ∧ B.cells = A.cells + mc ∧ B.slots = A.slots + ms
def vx_Back (l : Launch) (R : Room) (p : Program) (e : Env) (below : List Frame) (s : State) (sargs : Array Value) (y : MethodName) (len W9 : Nat)
    (Pre : Pt → Array Value → Prop) (Post : Pt → Array Value → Option Value → Pt → Prop) (PostX : Pt → Array Value → Addr → Pt → Prop) : Prop :=
  ∀ (m : MethodId) (meth : Method) (c : Code) (A : Pt) (g : JFrame) (ig : Instr) (mk : MethodId) (a : Array Value),
    Stand p l e R s m sargs below meth c A.U A.locs A.cells A.slots → g.method = m → g.locals.size = c.maxLocals → decode c.code g.pc = .ok (ig, len) →
    2 * g.monitorRoom + (g.stack.map fun v => v.category).sum ≤ W9 → A.U.methodNamed? y = some mk → Pre A a →
    (∃ (v : Option Value) (B : Pt), Stand p l e R s m sargs below meth c B.U B.locs B.cells B.slots ∧ Post A a v B ∧
      Steps p.tables e below (doInvoke e (A.U.setTop g) [] mk a).1 (B.U.setTop { g with pc := g.pc + len, stack := v.toList ++ g.stack })) ∨
    (∃ (q : Addr) (B : Pt), Stand p l e R s m sargs below meth c B.U B.locs B.cells B.slots ∧ PostX A a q B ∧
      Steps p.tables e below (doInvoke e (A.U.setTop g) [] mk a).1 ((B.U.setTop g).pushFrame (.throwing q)))
section Payer
variable {l : Launch} {R : Room} {p : Program} {e : Env} {below : List Frame} {s : State} {sargs : Array Value} {y : MethodName} {len W9 : Nat}
theorem vx_back {ws : List Cond} {rm : Room} {Pc : Array Value → State → Prop} {Qc : Array Value → State → Outcome → State → Prop} {XC : String → State → State → Prop} {mc ms : Nat} {free : Addr → Prop} {bytes : ByteArray} {maxL : Nat} {ret : Option FieldType}
    (hM : vx_Met l y ws rm Pc Qc XC mc ms free) (hblind : FrameBlind Pc) (hrc : rm.cells = mc) (hrs : rm.slots = ms)
    (hframes : rm.frames + 1 ≤ R.frames) (hlocals : W9 + (maxL + 11) + rm.locals ≤ R.locals)
    (hws : ∀ w ∈ ws, ∀ a' U, s.WarmedH U.vm → w.before a' U = true) (hcode : Cond.code y bytes maxL ret ∈ ws) (hinit : ∀ a' U, s.WarmedH U.vm → (Cond.initialized y.cls).before a' U = true) :
    vx_Back l R p e below s sargs y len W9 (PreOf R mc ms Pc) (PostOf Qc mc ms free) (vx_Post XC mc ms free) := by
  intro m meth c A g ig mk a X hg hsize hdg hW hn hp
  have h1 : (headSpec ws rm).pre.before a A.U = true := atoms_intro fun w hw => hws w hw _ _ X.warmed
  have h2 : (Cond.code y bytes maxL ret).before a A.U = true := hws _ hcode _ _ X.warmed
  have h3 : (Cond.initialized y.cls).before a A.U = true := hinit _ _ X.warmed
  have h4 : A.cells + (headSpec ws rm).room.cells ≤ R.cells := by rw [show (headSpec ws rm).room.cells = mc from hrc]; exact hp.1
  have h5 : A.slots + (headSpec ws rm).room.slots ≤ R.slots := by rw [show (headSpec ws rm).room.slots = ms from hrs]; exact hp.2.1
  have hPc : Pc a (A.U.calling g mk a) := hblind _ _ _ _ hp.2.2
  obtain ⟨U, Ls, c0, s0⟩ := A
  dsimp only [Pt.U, Pt.locs, Pt.cells, Pt.slots] at h1 h2 h3 h4 h5 X hn hPc ⊢
  obtain ⟨methY, cY, hmY, hcY, -, hlY, -, -, -, -⟩ := Cond.code_spec hn h2
  obtain ⟨kY, hkY, -⟩ := className_of_methodNamed hn
  have hinitY : kY.init = .initialized := Cond.initialized_spec (findClass_of_methodNamed hn) hkY h3
  have h : At U g.method c below := by rw [hg]; exact X.here
  have hlocals9 : W9 + (maxL + 11) + (headSpec ws rm).room.locals ≤ R.locals := hlocals
  have happ : (headSpec ws rm).appliesLoose y e.platform (U.calling g mk a) = true :=
    Spec.appliesLoose_calling (g := g) h hdg hn hkY hinitY
      (X.room_calling (g := g) (R' := (headSpec ws rm).room) hsize hmY hcY hframes (by rw [hlY]; omega) h4 h5) h1
  obtain ⟨mid, hmid⟩ := h.above
  have hfr : (U.setTop g).frames = (.java g :: mid) ++ below := by rw [State.frames_setTop' g h.top, hmid]; rfl
  obtain ⟨o, s₂, hsteps, -, hend, hq⟩ := Steps.callFree hM p X.admits X.cas X.clock (acts := []) hfr happ hPc trivial
  have hq' : vx_Q Qc XC mc ms free a (U.calling g mk a) o s₂ := hq
  rw [State.frames_setTop' g h.top] at hend
  obtain ⟨g₀, hg0⟩ := Option.isSome_iff_exists.mp h.top
  obtain ⟨r, hr⟩ := State.topJava?_eq_some.mp hg0
  have hr' : (({ U with heap := s₂.heap, slotsUsed := s₂.slotsUsed } : State).setVm s₂.vm).frames = .java g₀ :: r := hr
  rcases hq' with ⟨hqc, L, hfe, hL⟩ | ⟨q, rfl, E, ce, L, hx, hce, hcv, hcl, hW₂, hsm, hL⟩
  · obtain ⟨⟨v, rfl⟩, hW₂, e2, q2, q3, q4, q5, q6⟩ := id hfe
    have e3 : s₂ = ({ (U.calling g mk a).setFrames s₂.frames with heap := s₂.heap, slotsUsed := s₂.slotsUsed } : State).setVm s₂.vm := by
      have : s₂ = ({ s₂ with vm := (U.calling g mk a).vm } : State).setVm s₂.vm := rfl
      rw [e2] at this
      exact this
    obtain ⟨c₂, i₂, len₂, hc₂, hd₂, hf₂⟩ := hend
    have hW' : U.WarmedH s₂.vm := hW₂
    have hcc : c₂ = c := by
      have h1 : s₂.code? g.method = U.code? g.method := by
        rw [State.code?_eq, State.code?_eq, hW'.alike.method?]
      exact Option.some.inj (hc₂.symm.trans (h1.trans h.code))
    subst hcc
    have hlen : len₂ = len := by rw [hdg] at hd₂; cases hd₂; rfl
    subst hlen
    have hs₂ : s₂ = (({ U with heap := s₂.heap, slotsUsed := s₂.slotsUsed } : State).setVm s₂.vm).setTop { g with pc := g.pc + len₂, stack := v.toList ++ g.stack } := by
      refine e3.trans ?_
      rw [hf₂, State.calling_eq h.top, State.setFrames_setFrames, State.setTop_of_frames _ hr', hr]
      rfl
    have hsame : U.sameButNew ({ U with heap := s₂.heap, slotsUsed := s₂.slotsUsed } : State) L mc ms := by
      refine ⟨?_, q2, q3, q4, q5, q6⟩
      obtain ⟨t, ht, -⟩ := State.frames_cons hr
      show ({ U with heap := s₂.heap, slotsUsed := s₂.slotsUsed } : State) = { U.setFrames U.frames with heap := s₂.heap, slotsUsed := s₂.slotsUsed }
      rw [State.setFrames_self ht]
    subst hg
    refine Or.inl ⟨v, ⟨(({ U with heap := s₂.heap, slotsUsed := s₂.slotsUsed } : State).setVm s₂.vm), Ls ++ L, c0 + mc, s0 + ms⟩,
      ⟨X.admits, X.cas, X.clock, X.frames, X.room, X.hears, X.method, X.code, (X.here.setHeapUsed s₂.heap s₂.slotsUsed).setVm hW'.alike, X.tail, State.WarmedH.trans X.warmed hW', X.limits, X.bytes, X.same.trans (hsame.setVm s.vm)⟩,
      ⟨g, mk, s₂, L, rfl, rfl, hqc, rfl, hL, rfl, rfl⟩, ?_⟩
    show Steps p.tables e below _ ((({ U with heap := s₂.heap, slotsUsed := s₂.slotsUsed } : State).setVm s₂.vm).setTop { g with pc := g.pc + len₂, stack := v.toList ++ g.stack })
    rw [← hs₂]
    exact hsteps
  · obtain ⟨e2, q2, q3, q4, q5, q6⟩ := id hsm
    have e3 : s₂ = ({ (U.calling g mk a).setFrames s₂.frames with heap := s₂.heap, slotsUsed := s₂.slotsUsed } : State).setVm s₂.vm := by
      have : s₂ = ({ s₂ with vm := (U.calling g mk a).vm } : State).setVm s₂.vm := rfl
      rw [e2] at this
      exact this
    have hf₂ : s₂.frames = .throwing q :: .java g :: U.frames.tail := hend
    have hW' : U.WarmedH s₂.vm := hW₂
    have hs₂ : s₂ = ((({ U with heap := s₂.heap, slotsUsed := s₂.slotsUsed } : State).setVm s₂.vm).setTop g).pushFrame (.throwing q) := by
      refine e3.trans ?_
      rw [hf₂, State.calling_eq h.top, State.setFrames_setFrames, State.pushFrame, State.frames_setTop _ hr', State.setTop_of_frames _ hr', State.setFrames_setFrames, hr]
      rfl
    have hsame : U.sameButNew ({ U with heap := s₂.heap, slotsUsed := s₂.slotsUsed } : State) L mc ms := by
      refine ⟨?_, q2, q3, q4, q5, q6⟩
      obtain ⟨t, ht, -⟩ := State.frames_cons hr
      show ({ U with heap := s₂.heap, slotsUsed := s₂.slotsUsed } : State) = { U.setFrames U.frames with heap := s₂.heap, slotsUsed := s₂.slotsUsed }
      rw [State.setFrames_self ht]
    subst hg
    refine Or.inr ⟨q, ⟨(({ U with heap := s₂.heap, slotsUsed := s₂.slotsUsed } : State).setVm s₂.vm), Ls ++ L, c0 + mc, s0 + ms⟩,
      ⟨X.admits, X.cas, X.clock, X.frames, X.room, X.hears, X.method, X.code, (X.here.setHeapUsed s₂.heap s₂.slotsUsed).setVm hW'.alike, X.tail, State.WarmedH.trans X.warmed hW', X.limits, X.bytes, X.same.trans (hsame.setVm s.vm)⟩,
      ⟨g, mk, s₂, L, E, ce, rfl, rfl, hx, hce, hcv, hcl, rfl, hL, rfl, rfl⟩, ?_⟩
    show Steps p.tables e below _ (((({ U with heap := s₂.heap, slotsUsed := s₂.slotsUsed } : State).setVm s₂.vm).setTop g).pushFrame (.throwing q))
    rw [← hs₂]
    exact hsteps
end Payer
section Calls
variable {p : Program} {l : Launch} {e : Env} {R : Room} {s : State} {m : MethodId} {args : Array Value} {below : List Frame} {meth : Method} {c : Code} {T : State} {locs : List Loc} {cells slots : Nat}
theorem vx_callV (X : Stand p l e R s m args below meth c T locs cells slots) (hexec : p.tables.exec = Jvm.exec) {own C : String} {index : Nat} {y : MethodName} {bytes : ByteArray} {maxL : Nat} {ret : Option FieldType}
    (hown : s.vm.findClass own = some m.cls) (hlink : (Cond.methodLink own index y).before args s = true) (hinst : (Cond.instanceMethod y).before args s = true) (hsel : (Cond.selects C y y).before args s = true)
    (hcode : (Cond.code y bytes maxL ret).before args s = true) (hy : y.cls ≠ "java/lang/invoke/MethodHandle" ∧ y.cls ≠ "java/lang/invoke/VarHandle")
    {W9 : Nat} {Pre : Pt → Array Value → Prop} {Post : Pt → Array Value → Option Value → Pt → Prop} {PostX : Pt → Array Value → Addr → Pt → Prop} (hK : vx_Back l R p e below s args y 3 W9 Pre Post PostX)
    {b : Addr} {cellB : Cell} (hcell : T.heap[b]? = some cellB) (hobj : cellB.vm.isStatics = false) (hcls : s.vm.findClass C = some cellB.cls)
    {g : JFrame} (hg : g.method = m) (hsize : g.locals.size = c.maxLocals) {argsL rest : List Value} (hlen : ∀ sig, parseMethodDescriptor y.desc = some sig → argsL.length = sig.parameters.length)
    (hstack : g.stack = argsL.reverse ++ .ref b :: rest) (hW : 2 * g.monitorRoom + (rest.map fun v => v.category).sum ≤ W9) (hdg : decode c.code g.pc = .ok (.invokevirtual index, 3))
    (hpre : ∀ vm₁, s.WarmedH vm₁ → Pre ⟨T.setVm vm₁, locs, cells, slots⟩ (Value.ref b :: argsL).toArray) :
    (∃ (v : Option Value) (vm₁ : Vm) (B : Pt), s.WarmedH vm₁ ∧ Stand p l e R s m args below meth c B.U B.locs B.cells B.slots ∧ Post ⟨T.setVm vm₁, locs, cells, slots⟩ (Value.ref b :: argsL).toArray v B ∧
      ∀ target, Steps p.tables e below (B.U.setTop { g with pc := g.pc + 3, stack := v.toList ++ rest }) target → Steps p.tables e below (T.setTop g) target) ∨
    (∃ (q : Addr) (vm₁ : Vm) (B : Pt), s.WarmedH vm₁ ∧ Stand p l e R s m args below meth c B.U B.locs B.cells B.slots ∧ PostX ⟨T.setVm vm₁, locs, cells, slots⟩ (Value.ref b :: argsL).toArray q B ∧
      Steps p.tables e below (T.setTop g) ((B.U.setTop { g with stack := rest }).pushFrame (.throwing q))) := by
  obtain ⟨mk, methM, hnamed, hmethM, hstM, habM⟩ := Cond.instanceMethod_spec hinst
  obtain ⟨methM', cM, hmethM', -, -, -, -, -, -, hsigM⟩ := Cond.code_spec hnamed hcode
  cases hmethM.symm.trans hmethM'
  obtain ⟨c2, r2, m2, q1, q2, q3, q4, kP, hkP, hkPi⟩ := Cond.selects_spec hsel
  cases hcls.symm.trans q1
  cases (State.methodFound?_of_named hnamed hy).symm.trans q2
  cases hnamed.symm.trans q3
  have hselP : selectMethod e.platform s.vm cellB.cls mk = .method mk := by rw [Launch.admits_selectMethod X.admits]; exact q4
  obtain ⟨vm₁, X₁, hstep₁⟩ := X.invokevirtual hexec hown hlink hnamed hmethM hstM hkP hkPi hy (a := b) (cell := cellB) hcell
    (fun z h => by rw [h] at hobj; cases hobj) hselP hmethM habM hkP hkPi (g := g) hg (argsL := argsL) (rest := rest) (hlen _ hsigM) hstack hdg
  rcases hK m meth c ⟨T.setVm vm₁, locs, cells, slots⟩ { g with stack := rest } (.invokevirtual index) mk (Value.ref b :: argsL).toArray X₁ hg hsize hdg hW (X₁.named hnamed) (hpre vm₁ X₁.warmed) with ⟨v, B, X', hpost, hsteps⟩ | ⟨q, B, X', hpost, hsteps⟩
  · exact Or.inl ⟨v, vm₁, B, X₁.warmed, X', hpost, fun target h => hstep₁ _ fun acts => by rw [doInvoke_state]; exact hsteps.trans h⟩
  · exact Or.inr ⟨q, vm₁, B, X₁.warmed, X', hpost, hstep₁ _ fun acts => by rw [doInvoke_state]; exact hsteps⟩
theorem vx_callS (X : Stand p l e R s m args below meth c T locs cells slots) (hexec : p.tables.exec = Jvm.exec) {own : String} {index : Nat} {y : MethodName} {bytes : ByteArray} {maxL : Nat} {ret : Option FieldType}
    (hown : s.vm.findClass own = some m.cls) (hlink : (Cond.methodLink own index y).before args s = true) (hstat : (Cond.static y).before args s = true) (hinit : (Cond.initialized y.cls).before args s = true)
    (hcode : (Cond.code y bytes maxL ret).before args s = true) (hy : y.cls ≠ "java/lang/invoke/MethodHandle" ∧ y.cls ≠ "java/lang/invoke/VarHandle")
    {W9 : Nat} {Pre : Pt → Array Value → Prop} {Post : Pt → Array Value → Option Value → Pt → Prop} {PostX : Pt → Array Value → Addr → Pt → Prop} (hK : vx_Back l R p e below s args y 3 W9 Pre Post PostX)
    {g : JFrame} (hg : g.method = m) (hsize : g.locals.size = c.maxLocals) {argsL rest : List Value} (hlen : ∀ sig, parseMethodDescriptor y.desc = some sig → argsL.length = sig.parameters.length)
    (hstack : g.stack = argsL.reverse ++ rest) (hW : 2 * g.monitorRoom + (rest.map fun v => v.category).sum ≤ W9) (hdg : decode c.code g.pc = .ok (.invokestatic index, 3))
    (hpre : ∀ vm₁, s.WarmedH vm₁ → Pre ⟨T.setVm vm₁, locs, cells, slots⟩ argsL.toArray) :
    (∃ (v : Option Value) (vm₁ : Vm) (B : Pt), s.WarmedH vm₁ ∧ Stand p l e R s m args below meth c B.U B.locs B.cells B.slots ∧ Post ⟨T.setVm vm₁, locs, cells, slots⟩ argsL.toArray v B ∧
      ∀ target, Steps p.tables e below (B.U.setTop { g with pc := g.pc + 3, stack := v.toList ++ rest }) target → Steps p.tables e below (T.setTop g) target) ∨
    (∃ (q : Addr) (vm₁ : Vm) (B : Pt), s.WarmedH vm₁ ∧ Stand p l e R s m args below meth c B.U B.locs B.cells B.slots ∧ PostX ⟨T.setVm vm₁, locs, cells, slots⟩ argsL.toArray q B ∧
      Steps p.tables e below (T.setTop g) ((B.U.setTop { g with stack := rest }).pushFrame (.throwing q))) := by
  obtain ⟨mk, hnamed⟩ := Cond.code_named hcode
  obtain ⟨methM, cM, hmethM, -, -, -, -, -, -, hsigM⟩ := Cond.code_spec hnamed hcode
  have hstatic : methM.isStatic = true := Cond.static_spec hnamed hmethM hstat
  obtain ⟨kP, hkP, -⟩ := className_of_methodNamed hnamed
  have hinitP : kP.init = .initialized := Cond.initialized_spec (findClass_of_methodNamed hnamed) hkP hinit
  obtain ⟨vm₁, X₁, hstep₁⟩ := X.invokestatic hexec hown hlink hnamed hmethM hstatic hkP hinitP hy (g := g) hg (argsL := argsL) (rest := rest) (hlen _ hsigM) hstack hdg
  rcases hK m meth c ⟨T.setVm vm₁, locs, cells, slots⟩ { g with stack := rest } (.invokestatic index) mk argsL.toArray X₁ hg hsize hdg hW (X₁.named hnamed) (hpre vm₁ X₁.warmed) with ⟨v, B, X', hpost, hsteps⟩ | ⟨q, B, X', hpost, hsteps⟩
  · exact Or.inl ⟨v, vm₁, B, X₁.warmed, X', hpost, fun target h => hstep₁ _ fun acts => by rw [doInvoke_state]; exact hsteps.trans h⟩
  · exact Or.inr ⟨q, vm₁, B, X₁.warmed, X', hpost, hstep₁ _ fun acts => by rw [doInvoke_state]; exact hsteps⟩
end Calls
theorem vx_cls {s : State} {T : State} {vm₁ : Vm} {E : String} {k : ClassId} (hW : s.WarmedH vm₁) (h : (T.setVm vm₁).vm.findClass E = some k) : s.vm.findClass E = some k := by
  have h1 : vm₁.findClass E = some k := h
  rw [hW.alike.findClass] at h1
  exact h1
/-- the method's frame g, with q thrown over it -/
def vx_W (p : Program) (l : Launch) (e : Env) (R : Room) (s : State) (m : MethodId) (args : Array Value) (below : List Frame) (meth : Method) (c : Code) (H : Heap) (locs : List Loc) (cells slots : Nat) (Q : State → Prop) (g : JFrame) (q : Addr) : Prop :=
  ∀ T : State, T.heap = H → Stand p l e R s m args below meth c T locs cells slots → ∃ t, Steps p.tables e below ((T.setTop g).pushFrame (.throwing q)) t ∧ Q t
def vx_Run (p : Program) (l : Launch) (e : Env) (R : Room) (s : State) (m : MethodId) (args : Array Value) (below : List Frame) (meth : Method) (c : Code) (H : Heap) (locs : List Loc) (cells slots mc ms : Nat) (g : JFrame) (rest : List Value) (Qa : State → Outcome → State → Prop) (XC : String → State → State → Prop) (free : Addr → Prop) : Prop :=
  ∀ T : State, T.heap = H → Stand p l e R s m args below meth c T locs cells slots →
    (∃ (v : Option Value) (st₀ t T' : State) (L : List Loc), st₀.heap = H ∧ Stand p l e R s m args below meth c T' (locs ++ L) (cells + mc) (slots + ms) ∧ (∀ q ∈ L, free q.base) ∧ T'.heap = t.heap ∧ T'.vm = t.vm ∧ Qa st₀ (.returned v) t ∧
      Goes p e below T g T' { g with pc := g.pc + 3, stack := v.toList ++ rest }) ∨
    (∃ (q : Addr) (st₀ t T' : State) (L : List Loc) (E : String) (ce : Cell), st₀.heap = H ∧ Stand p l e R s m args below meth c T' (locs ++ L) (cells + mc) (slots + ms) ∧ (∀ z ∈ L, free z.base) ∧ T'.heap = t.heap ∧ T'.vm = t.vm ∧ XC E st₀ t ∧ t.heap[q]? = some ce ∧ ce.vm = .none ∧ s.vm.findClass E = some ce.cls ∧
      Steps p.tables e below (T.setTop g) ((T'.setTop { g with stack := rest }).pushFrame (.throwing q)))
def vx_X {S : Type} (px : S → Prop) (B : String → S → State → Prop) (A : Nat → Prop) : String → State → State → Prop := fun E st t => ∃ u : S, px u ∧ B E u t ∧ va_F A st t
section Runs
variable {p : Program} {l : Launch} {e : Env} {R : Room} {s : State} {m : MethodId} {args : Array Value} {below : List Frame} {meth : Method} {c : Code} {H : Heap} {locs : List Loc} {cells slots : Nat}
variable {y : MethodName} {bytes cc : ByteArray} {maxL nL mc ms n index : Nat} {ret : Option FieldType} {ws : List Cond} {rm : Room} {Pc : Array Value → State → Prop} {Qc : Array Value → State → Outcome → State → Prop} {XC : String → State → State → Prop} {free : Addr → Prop} {Ts : List Cond} {own C : String} {b : Addr} {As rest : List Value} {g : JFrame}
theorem vx_callBack (cb : CallB R s args own index y bytes maxL ret ws rm mc ms n) (hM : vx_Met l y ws rm Pc Qc XC mc ms free) (hbl : FrameBlind Pc) : vx_Back l R p e below s args y 3 8 (PreOf R mc ms Pc) (PostOf Qc mc ms free) (vx_Post XC mc ms free) := by
  obtain ⟨hrc, hrs, hfr, hlo, hws, hcw, -, hini, -⟩ := cb
  exact vx_back (bytes := bytes) (maxL := maxL) (ret := ret) hM hbl hrc hrs hfr hlo hws hcw (fun a' U hW => word_at hW (Or.inl (by first | rfl | simp [Cond.onTables, Cond.keeps, Cond.steady])) hini)
theorem vx_runV (S : CallFix p m c cc nL s args Ts own) (hM : vx_Met l y ws rm Pc Qc XC mc ms free) (cw : CallW R s args own C index y bytes maxL ret ws rm mc ms n) (hp : PreV s H C b Pc As)
    (hg : g.method = m) (hn : As.length = n) (hsize : g.locals.size = nL) (hstack : g.stack = As.reverse ++ .ref b :: rest) (hW : 2 * g.monitorRoom + (rest.map fun v => v.category).sum ≤ 8) (hdg : decode cc g.pc = .ok (.invokevirtual index, 3)) (hf : cells + mc ≤ R.cells ∧ slots + ms ≤ R.slots) :
    vx_Run p l e R s m args below meth c H locs cells slots mc ms g rest (Qc (Value.ref b :: As).toArray) XC free := by
  have hK : vx_Back l R p e below s args y 3 8 (PreOf R mc ms Pc) (PostOf Qc mc ms free) (vx_Post XC mc ms free) := vx_callBack cw.1 hM hp.1
  obtain ⟨⟨-, -, -, -, -, -, hcode, -, hy, hlen, hl⟩, hin, hse⟩ := cw
  obtain ⟨hx, hb, hml, ho, -⟩ := S
  obtain ⟨-, ⟨cellB, hcB, hoB, hclB⟩, hPc⟩ := hp
  intro T hT X
  rcases vx_callV X hx (C := C) (bytes := bytes) (maxL := maxL) (ret := ret) ho hl hin hse hcode hy hK (by rw [hT]; exact hcB) hoB hclB hg (hsize.trans hml.symm) (argsL := As) (rest := rest) (fun sig h => hn.trans (hlen sig h)) hstack hW (by rw [hb]; exact hdg)
    (fun vm₁ hW₁ => ⟨hf.1, hf.2, hPc (T.setVm vm₁) hT hW₁⟩) with ⟨v, vm₁, ⟨U', l2, c2, s2⟩, hW₁, X', ⟨g', mk, t, L, e1, e2, hq, h1, hL, h2, h3⟩, st⟩ | ⟨q, vm₁, ⟨U', l2, c2, s2⟩, hW₁, X', ⟨g', mk, t, L, E, ce, e1, e2, hq, hce, hcv, hcl, h1, hL, h2, h3⟩, st⟩
  · dsimp only [Pt.U, Pt.locs, Pt.cells, Pt.slots] at X' e1 e2 h1 h2 h3 st
    subst h1; subst h2; subst h3
    exact Or.inl ⟨v, (T.setVm vm₁).calling g' mk (Value.ref b :: As).toArray, t, U', L, hT, X', hL, e1, e2, hq, st⟩
  · dsimp only [Pt.U, Pt.locs, Pt.cells, Pt.slots] at X' e1 e2 h1 h2 h3 st hcl
    subst h1; subst h2; subst h3
    exact Or.inr ⟨q, (T.setVm vm₁).calling g' mk (Value.ref b :: As).toArray, t, U', L, E, ce, hT, X', hL, e1, e2, hq, hce, hcv, vx_cls hW₁ hcl, st⟩
theorem vx_runS (S : CallFix p m c cc nL s args Ts own) (hM : vx_Met l y ws rm Pc Qc XC mc ms free) (cw : CallB R s args own index y bytes maxL ret ws rm mc ms n ∧ (Cond.static y).before args s = true) (hp : PreS s H Pc As)
    (hg : g.method = m) (hn : As.length = n) (hsize : g.locals.size = nL) (hstack : g.stack = As.reverse ++ rest) (hW : 2 * g.monitorRoom + (rest.map fun v => v.category).sum ≤ 8) (hdg : decode cc g.pc = .ok (.invokestatic index, 3)) (hf : cells + mc ≤ R.cells ∧ slots + ms ≤ R.slots) :
    vx_Run p l e R s m args below meth c H locs cells slots mc ms g rest (Qc As.toArray) XC free := by
  have hK : vx_Back l R p e below s args y 3 8 (PreOf R mc ms Pc) (PostOf Qc mc ms free) (vx_Post XC mc ms free) := vx_callBack cw.1 hM hp.1
  obtain ⟨⟨-, -, -, -, -, -, hcode, hini, hy, hlen, hl⟩, hstt⟩ := cw
  obtain ⟨hx, hb, hml, ho, -⟩ := S
  intro T hT X
  rcases vx_callS X hx (bytes := bytes) (maxL := maxL) (ret := ret) ho hl hstt hini hcode hy hK hg (hsize.trans hml.symm) (argsL := As) (rest := rest) (fun sig h => hn.trans (hlen sig h)) hstack hW (by rw [hb]; exact hdg)
    (fun vm₁ hW₁ => ⟨hf.1, hf.2, hp.2 (T.setVm vm₁) hT hW₁⟩) with ⟨v, vm₁, ⟨U', l2, c2, s2⟩, hW₁, X', ⟨g', mk, t, L, e1, e2, hq, h1, hL, h2, h3⟩, st⟩ | ⟨q, vm₁, ⟨U', l2, c2, s2⟩, hW₁, X', ⟨g', mk, t, L, E, ce, e1, e2, hq, hce, hcv, hcl, h1, hL, h2, h3⟩, st⟩
  · dsimp only [Pt.U, Pt.locs, Pt.cells, Pt.slots] at X' e1 e2 h1 h2 h3 st
    subst h1; subst h2; subst h3
    exact Or.inl ⟨v, (T.setVm vm₁).calling g' mk As.toArray, t, U', L, hT, X', hL, e1, e2, hq, st⟩
  · dsimp only [Pt.U, Pt.locs, Pt.cells, Pt.slots] at X' e1 e2 h1 h2 h3 st hcl
    subst h1; subst h2; subst h3
    exact Or.inr ⟨q, (T.setVm vm₁).calling g' mk As.toArray, t, U', L, E, ce, hT, X', hL, e1, e2, hq, hce, hcv, vx_cls hW₁ hcl, st⟩
end Runs
section Rows
variable {p : Program} {l : Launch} {e : Env} {R : Room} {s : State} {m : MethodId} {args : Array Value} {below : List Frame} {meth : Method} {c : Code} {H : Heap} {locs : List Loc} {cells slots : Nat} {Q : State → Prop}
variable {mc ms : Nat} {free : Addr → Prop} {A0 A1 : Nat → Prop} {H0 : Heap} {a : Array Value} {pc : Nat} {ls : Array Slot} {st0 rest : List Value}
theorem vx_keep {st₀ t T' : State} {L : List Loc} (h0 : st₀.heap = H) (e1 : T'.heap = t.heap) (hS : va_S A0 H0 H locs) (hA : ∀ q, q < H.size → A1 q → A0 q) (hf : ∀ q, free q → A0 q) (hL : ∀ q ∈ L, free q.base) (hF : va_F A1 st₀ t) :
    H.size ≤ T'.heap.size ∧ (∀ q : Nat, q < H.size → ¬ A1 q → T'.heap[q]? = H[q]?) ∧ va_S A0 H0 T'.heap (locs ++ L) := by
  obtain ⟨hz, hk⟩ := hF
  rw [h0] at hz hk
  exact ⟨by rw [e1]; exact hz, fun q h1 h2 => by rw [e1]; exact hk q h1 h2,
    ⟨Nat.le_trans hS.1 (by rw [e1]; exact hz), fun q h1 h2 => by rw [e1, hk q (Nat.lt_of_lt_of_le h1 hS.1) (fun z => h2 (hA q (Nat.lt_of_lt_of_le h1 hS.1) z))]; exact hS.2.1 q h1 h2, fun q hq => by
      rcases List.mem_append.mp hq with h | h
      · exact hS.2.2 q h
      · exact hf _ (hL q h)⟩⟩
theorem vx_calli {S SX : Type} {post : Int32 → S → Prop} {px : SX → Prop} {B : S → State → Prop} {BX : String → SX → State → Prop} {AX : Nat → Prop} (hr : vx_Run p l e R s m args below meth c H locs cells slots mc ms (F0 m pc ls st0) rest (va_Qi post B A1 a) (vx_X px BX AX) free) (hS : va_S A0 H0 H locs) (hA : ∀ q, q < H.size → A1 q → A0 q) (hf : ∀ q, free q → A0 q) (hAX : ∀ q, q < H.size → AX q → A0 q)
    (kx : ∀ (E : String) (ce : Cell) (q9 : Addr) (u : SX) (t : State) (H1 : Heap) (locs1 : List Loc), t.heap = H1 → s.vm.Alike t.vm → px u → BX E u t → H.size ≤ H1.size → (∀ q : Nat, q < H.size → ¬ AX q → H1[q]? = H[q]?) → va_S A0 H0 H1 locs1 → H1[q9]? = some ce → ce.vm = .none → s.vm.findClass E = some ce.cls → vx_W p l e R s m args below meth c H1 locs1 (cells + mc) (slots + ms) Q (F0 m pc ls rest) q9)
    (kk : ∀ (r : Int32) (u : S) (t : State) (H1 : Heap) (locs1 : List Loc), t.heap = H1 → s.vm.Alike t.vm → post r u → B u t → H.size ≤ H1.size → (∀ q : Nat, q < H.size → ¬ A1 q → H1[q]? = H[q]?) → va_S A0 H0 H1 locs1 → W p l e R s m args below meth c H1 locs1 (cells + mc) (slots + ms) Q (F0 m (pc + 3) ls (.int r :: rest))) : W p l e R s m args below meth c H locs cells slots Q (F0 m pc ls st0) := by
  intro T hT X
  rcases hr T hT X with ⟨v, st₀, t, T', L, h0, X', hL, e1, e2, ⟨⟨r, u, hv, hp, hb⟩, hF⟩, st⟩ | ⟨q, st₀, t, T', L, E, ce, h0, X', hL, e1, e2, ⟨u, hp, hb, hF⟩, hce, hcv, hcl, st⟩
  · cases hv
    obtain ⟨k1, k2, k3⟩ := vx_keep h0 e1 hS hA hf hL hF
    obtain ⟨t2, a1, b1⟩ := kk r u t T'.heap (locs ++ L) e1.symm (by rw [← e2]; exact X'.warmed.alike) hp hb k1 k2 k3 T' rfl X'
    exact ⟨t2, st t2 a1, b1⟩
  · obtain ⟨k1, k2, k3⟩ := vx_keep h0 e1 hS hAX hf hL hF
    obtain ⟨t2, a1, b1⟩ := kx E ce q u t T'.heap (locs ++ L) e1.symm (by rw [← e2]; exact X'.warmed.alike) hp hb k1 k2 k3 (by rw [e1]; exact hce) hcv hcl T' rfl X'
    exact ⟨t2, st.trans a1, b1⟩
theorem vx_calll {S SX : Type} {post : Int64 → S → Prop} {px : SX → Prop} {B : S → State → Prop} {BX : String → SX → State → Prop} {AX : Nat → Prop} (hr : vx_Run p l e R s m args below meth c H locs cells slots mc ms (F0 m pc ls st0) rest (va_Ql post B A1 a) (vx_X px BX AX) free) (hS : va_S A0 H0 H locs) (hA : ∀ q, q < H.size → A1 q → A0 q) (hf : ∀ q, free q → A0 q) (hAX : ∀ q, q < H.size → AX q → A0 q)
    (kx : ∀ (E : String) (ce : Cell) (q9 : Addr) (u : SX) (t : State) (H1 : Heap) (locs1 : List Loc), t.heap = H1 → s.vm.Alike t.vm → px u → BX E u t → H.size ≤ H1.size → (∀ q : Nat, q < H.size → ¬ AX q → H1[q]? = H[q]?) → va_S A0 H0 H1 locs1 → H1[q9]? = some ce → ce.vm = .none → s.vm.findClass E = some ce.cls → vx_W p l e R s m args below meth c H1 locs1 (cells + mc) (slots + ms) Q (F0 m pc ls rest) q9)
    (kk : ∀ (r : Int64) (u : S) (t : State) (H1 : Heap) (locs1 : List Loc), t.heap = H1 → s.vm.Alike t.vm → post r u → B u t → H.size ≤ H1.size → (∀ q : Nat, q < H.size → ¬ A1 q → H1[q]? = H[q]?) → va_S A0 H0 H1 locs1 → W p l e R s m args below meth c H1 locs1 (cells + mc) (slots + ms) Q (F0 m (pc + 3) ls (.long r :: rest))) : W p l e R s m args below meth c H locs cells slots Q (F0 m pc ls st0) := by
  intro T hT X
  rcases hr T hT X with ⟨v, st₀, t, T', L, h0, X', hL, e1, e2, ⟨⟨r, u, hv, hp, hb⟩, hF⟩, st⟩ | ⟨q, st₀, t, T', L, E, ce, h0, X', hL, e1, e2, ⟨u, hp, hb, hF⟩, hce, hcv, hcl, st⟩
  · cases hv
    obtain ⟨k1, k2, k3⟩ := vx_keep h0 e1 hS hA hf hL hF
    obtain ⟨t2, a1, b1⟩ := kk r u t T'.heap (locs ++ L) e1.symm (by rw [← e2]; exact X'.warmed.alike) hp hb k1 k2 k3 T' rfl X'
    exact ⟨t2, st t2 a1, b1⟩
  · obtain ⟨k1, k2, k3⟩ := vx_keep h0 e1 hS hAX hf hL hF
    obtain ⟨t2, a1, b1⟩ := kx E ce q u t T'.heap (locs ++ L) e1.symm (by rw [← e2]; exact X'.warmed.alike) hp hb k1 k2 k3 (by rw [e1]; exact hce) hcv hcl T' rfl X'
    exact ⟨t2, st.trans a1, b1⟩
theorem vx_callf {S SX : Type} {post : UInt32 → S → Prop} {px : SX → Prop} {B : S → State → Prop} {BX : String → SX → State → Prop} {AX : Nat → Prop} (hr : vx_Run p l e R s m args below meth c H locs cells slots mc ms (F0 m pc ls st0) rest (va_Qf post B A1 a) (vx_X px BX AX) free) (hS : va_S A0 H0 H locs) (hA : ∀ q, q < H.size → A1 q → A0 q) (hf : ∀ q, free q → A0 q) (hAX : ∀ q, q < H.size → AX q → A0 q)
    (kx : ∀ (E : String) (ce : Cell) (q9 : Addr) (u : SX) (t : State) (H1 : Heap) (locs1 : List Loc), t.heap = H1 → s.vm.Alike t.vm → px u → BX E u t → H.size ≤ H1.size → (∀ q : Nat, q < H.size → ¬ AX q → H1[q]? = H[q]?) → va_S A0 H0 H1 locs1 → H1[q9]? = some ce → ce.vm = .none → s.vm.findClass E = some ce.cls → vx_W p l e R s m args below meth c H1 locs1 (cells + mc) (slots + ms) Q (F0 m pc ls rest) q9)
    (kk : ∀ (r : UInt32) (u : S) (t : State) (H1 : Heap) (locs1 : List Loc), t.heap = H1 → s.vm.Alike t.vm → post r u → B u t → H.size ≤ H1.size → (∀ q : Nat, q < H.size → ¬ A1 q → H1[q]? = H[q]?) → va_S A0 H0 H1 locs1 → W p l e R s m args below meth c H1 locs1 (cells + mc) (slots + ms) Q (F0 m (pc + 3) ls (.float r :: rest))) : W p l e R s m args below meth c H locs cells slots Q (F0 m pc ls st0) := by
  intro T hT X
  rcases hr T hT X with ⟨v, st₀, t, T', L, h0, X', hL, e1, e2, ⟨⟨r, u, hv, hp, hb⟩, hF⟩, st⟩ | ⟨q, st₀, t, T', L, E, ce, h0, X', hL, e1, e2, ⟨u, hp, hb, hF⟩, hce, hcv, hcl, st⟩
  · cases hv
    obtain ⟨k1, k2, k3⟩ := vx_keep h0 e1 hS hA hf hL hF
    obtain ⟨t2, a1, b1⟩ := kk r u t T'.heap (locs ++ L) e1.symm (by rw [← e2]; exact X'.warmed.alike) hp hb k1 k2 k3 T' rfl X'
    exact ⟨t2, st t2 a1, b1⟩
  · obtain ⟨k1, k2, k3⟩ := vx_keep h0 e1 hS hAX hf hL hF
    obtain ⟨t2, a1, b1⟩ := kx E ce q u t T'.heap (locs ++ L) e1.symm (by rw [← e2]; exact X'.warmed.alike) hp hb k1 k2 k3 (by rw [e1]; exact hce) hcv hcl T' rfl X'
    exact ⟨t2, st.trans a1, b1⟩
theorem vx_calld {S SX : Type} {post : UInt64 → S → Prop} {px : SX → Prop} {B : S → State → Prop} {BX : String → SX → State → Prop} {AX : Nat → Prop} (hr : vx_Run p l e R s m args below meth c H locs cells slots mc ms (F0 m pc ls st0) rest (va_Qd post B A1 a) (vx_X px BX AX) free) (hS : va_S A0 H0 H locs) (hA : ∀ q, q < H.size → A1 q → A0 q) (hf : ∀ q, free q → A0 q) (hAX : ∀ q, q < H.size → AX q → A0 q)
    (kx : ∀ (E : String) (ce : Cell) (q9 : Addr) (u : SX) (t : State) (H1 : Heap) (locs1 : List Loc), t.heap = H1 → s.vm.Alike t.vm → px u → BX E u t → H.size ≤ H1.size → (∀ q : Nat, q < H.size → ¬ AX q → H1[q]? = H[q]?) → va_S A0 H0 H1 locs1 → H1[q9]? = some ce → ce.vm = .none → s.vm.findClass E = some ce.cls → vx_W p l e R s m args below meth c H1 locs1 (cells + mc) (slots + ms) Q (F0 m pc ls rest) q9)
    (kk : ∀ (r : UInt64) (u : S) (t : State) (H1 : Heap) (locs1 : List Loc), t.heap = H1 → s.vm.Alike t.vm → post r u → B u t → H.size ≤ H1.size → (∀ q : Nat, q < H.size → ¬ A1 q → H1[q]? = H[q]?) → va_S A0 H0 H1 locs1 → W p l e R s m args below meth c H1 locs1 (cells + mc) (slots + ms) Q (F0 m (pc + 3) ls (.double r :: rest))) : W p l e R s m args below meth c H locs cells slots Q (F0 m pc ls st0) := by
  intro T hT X
  rcases hr T hT X with ⟨v, st₀, t, T', L, h0, X', hL, e1, e2, ⟨⟨r, u, hv, hp, hb⟩, hF⟩, st⟩ | ⟨q, st₀, t, T', L, E, ce, h0, X', hL, e1, e2, ⟨u, hp, hb, hF⟩, hce, hcv, hcl, st⟩
  · cases hv
    obtain ⟨k1, k2, k3⟩ := vx_keep h0 e1 hS hA hf hL hF
    obtain ⟨t2, a1, b1⟩ := kk r u t T'.heap (locs ++ L) e1.symm (by rw [← e2]; exact X'.warmed.alike) hp hb k1 k2 k3 T' rfl X'
    exact ⟨t2, st t2 a1, b1⟩
  · obtain ⟨k1, k2, k3⟩ := vx_keep h0 e1 hS hAX hf hL hF
    obtain ⟨t2, a1, b1⟩ := kx E ce q u t T'.heap (locs ++ L) e1.symm (by rw [← e2]; exact X'.warmed.alike) hp hb k1 k2 k3 (by rw [e1]; exact hce) hcv hcl T' rfl X'
    exact ⟨t2, st.trans a1, b1⟩
theorem vx_callv {S SX : Type} {post : S → Prop} {px : SX → Prop} {B : S → State → Prop} {BX : String → SX → State → Prop} {AX : Nat → Prop} (hr : vx_Run p l e R s m args below meth c H locs cells slots mc ms (F0 m pc ls st0) rest (va_Qv post B A1 a) (vx_X px BX AX) free) (hS : va_S A0 H0 H locs) (hA : ∀ q, q < H.size → A1 q → A0 q) (hf : ∀ q, free q → A0 q) (hAX : ∀ q, q < H.size → AX q → A0 q)
    (kx : ∀ (E : String) (ce : Cell) (q9 : Addr) (u : SX) (t : State) (H1 : Heap) (locs1 : List Loc), t.heap = H1 → s.vm.Alike t.vm → px u → BX E u t → H.size ≤ H1.size → (∀ q : Nat, q < H.size → ¬ AX q → H1[q]? = H[q]?) → va_S A0 H0 H1 locs1 → H1[q9]? = some ce → ce.vm = .none → s.vm.findClass E = some ce.cls → vx_W p l e R s m args below meth c H1 locs1 (cells + mc) (slots + ms) Q (F0 m pc ls rest) q9)
    (kk : ∀ (u : S) (t : State) (H1 : Heap) (locs1 : List Loc), t.heap = H1 → s.vm.Alike t.vm → post u → B u t → H.size ≤ H1.size → (∀ q : Nat, q < H.size → ¬ A1 q → H1[q]? = H[q]?) → va_S A0 H0 H1 locs1 → W p l e R s m args below meth c H1 locs1 (cells + mc) (slots + ms) Q (F0 m (pc + 3) ls (rest))) : W p l e R s m args below meth c H locs cells slots Q (F0 m pc ls st0) := by
  intro T hT X
  rcases hr T hT X with ⟨v, st₀, t, T', L, h0, X', hL, e1, e2, ⟨⟨u, hv, hp, hb⟩, hF⟩, st⟩ | ⟨q, st₀, t, T', L, E, ce, h0, X', hL, e1, e2, ⟨u, hp, hb, hF⟩, hce, hcv, hcl, st⟩
  · cases hv
    obtain ⟨k1, k2, k3⟩ := vx_keep h0 e1 hS hA hf hL hF
    obtain ⟨t2, a1, b1⟩ := kk u t T'.heap (locs ++ L) e1.symm (by rw [← e2]; exact X'.warmed.alike) hp hb k1 k2 k3 T' rfl X'
    exact ⟨t2, st t2 a1, b1⟩
  · obtain ⟨k1, k2, k3⟩ := vx_keep h0 e1 hS hAX hf hL hF
    obtain ⟨t2, a1, b1⟩ := kx E ce q u t T'.heap (locs ++ L) e1.symm (by rw [← e2]; exact X'.warmed.alike) hp hb k1 k2 k3 (by rw [e1]; exact hce) hcv hcl T' rfl X'
    exact ⟨t2, st.trans a1, b1⟩
/-- caught by the row x of this method's table; the rows ahead don't take it -/
theorem vx_catch {own name : String} {E : String} {ce : Cell} {q : Addr} (hown : s.vm.findClass own = some m.cls) (pre : List ExceptionTableEntry) (x : ExceptionTableEntry) (suf : List ExceptionTableEntry) (hsplit : c.exceptionTable.toList = pre ++ x :: suf)
    (hpass : ∀ z ∈ pre, covers z pc = false ∨ (z.catchType ≠ 0 ∧ ∃ nm : String, (Cond.classLink own z.catchType nm).before args s = true ∧ va_Nc E nm s)) (hx : covers x pc = true) (h0 : x.catchType ≠ 0)
    (hlink : (Cond.classLink own x.catchType name).before args s = true) (hcast : (Cond.castable E name).before args s = true) (hcell : H[q]? = some ce) (hv : ce.vm = .none) (hcl : s.vm.findClass E = some ce.cls)
    (kk : W p l e R s m args below meth c H locs cells slots Q (F0 m x.handlerPc ls [.ref q])) : vx_W p l e R s m args below meth c H locs cells slots Q (F0 m pc ls rest) q := by
  intro T hT X
  have hpl : e.platform.magicAccessors = ({} : Platform).magicAccessors := by rw [X.admits.platform]
  obtain ⟨c3, c4, hc3, hc4, hasg⟩ := Cond.castable_spec hcast
  cases Option.some.inj (hc3.symm.trans hcl)
  obtain ⟨c5, hc5, hcl5⟩ := Cond.classLink_spec hown hlink e.platform hpl
  cases Option.some.inj (hc4.symm.trans hc5)
  obtain ⟨vm', X', st⟩ := X.thenCaughtThrough q (g := F0 m pc ls rest) rfl (Steps.refl _) (by rw [hT]; exact hcell) (by rw [hv]; rfl) (by obtain ⟨k9, h9, -⟩ := Vm.findClass_spec hcl; exact ⟨k9, h9⟩) pre x suf hsplit
    (fun z hz => by
      rcases hpass z hz with h | ⟨hz0, nm, hl1, hn1⟩
      · exact Or.inl h
      · obtain ⟨c6, hc6, hcl6⟩ := Cond.classLink_spec hown hl1 e.platform hpl
        obtain ⟨a8, b8, h1, h2, h3⟩ := hn1
        cases Option.some.inj (h1.symm.trans hcl)
        cases Option.some.inj (h2.symm.trans hc6)
        exact Or.inr ⟨hz0, _, hcl6, h3⟩) hx (Or.inr ⟨h0, c4, hcl5, hasg⟩)
  obtain ⟨t, a1, b1⟩ := kk (T.setVm vm') hT X'
  exact ⟨t, st.trans a1, b1⟩
end Rows
section Ends
variable {p : Program} {l : Launch} {e : Env} {R : Room} {s : State} {m : MethodId} {args : Array Value} {below : List Frame} {meth : Method} {c : Code} {H : Heap} {locs : List Loc} {cells slots : Nat} {Q : State → Prop}
variable {mc ms : Nat} {free : Addr → Prop} {A0 A1 : Nat → Prop} {H0 : Heap} {a : Array Value} {ls : Array Slot} {st0 rest : List Value}
variable {Qc : Array Value → State → Outcome → State → Prop} {XC : String → State → State → Prop}
/-- what a body that may throw owes at its end -/
def vx_MQ (below : List Frame) (Qc : Array Value → State → Outcome → State → Prop) (XC : String → State → State → Prop) (a : Array Value) (s : State) (mc ms : Nat) (free : Addr → Prop) : State → Prop := fun t =>
  ∃ o, t.status = .running ∧ Ended t below o ∧ vx_Q Qc XC mc ms free a s o t
theorem vx_ret {g : JFrame} {mc ms : Nat} (k : W p l e R s m args below meth c H locs cells slots (MQ below Qc args s mc ms free) g) : W p l e R s m args below meth c H locs cells slots (vx_MQ below Qc XC args s mc ms free) g := by
  intro T hT X
  obtain ⟨t, a1, o, b1, b2, b3, b4⟩ := k T hT X
  exact ⟨t, a1, o, b1, b2, Or.inl ⟨b3, b4⟩⟩
/-- not caught here: it goes on to the caller -/
theorem vx_widen {g : JFrame} {q : Addr} {k n : Nat} (h1 : cells ≤ k) (h2 : slots ≤ n) (kk : vx_W p l e R s m args below meth c H locs k n Q g q) : vx_W p l e R s m args below meth c H locs cells slots Q g q := fun T hT X => kk T hT (stand_widen X h1 h2)
theorem vx_out {pc : Nat} {E : String} {ce : Cell} {q : Addr} {mc ms : Nat} (hout : ∀ x ∈ c.exceptionTable.toList, covers x pc = false) (hlocks : meth.locks = false) (hcell : H[q]? = some ce) (hv : ce.vm = .none) (hcl : s.vm.findClass E = some ce.cls)
    (hx : ∀ t : State, t.heap = H → s.vm.Alike t.vm → XC E s t) (hf : ∀ z ∈ locs, free z.base) (hc : cells ≤ mc) (hs : slots ≤ ms) :
    vx_W p l e R s m args below meth c H locs cells slots (vx_MQ below Qc XC args s mc ms free) (F0 m pc ls rest) q := by
  intro T hT X
  obtain ⟨st1, hrun, hend, hW, hsm⟩ := X.leaveThrown q (g := F0 m pc ls rest) rfl rfl rfl hout hlocks
  have hcell9 : (T.setFrames (.throwing q :: below)).heap[q]? = some ce := by
    show T.heap[q]? = some ce
    rw [hT]; exact hcell
  exact ⟨_, st1, .threw q, hrun, hend, Or.inr ⟨q, rfl, E, ce, locs, hx _ hT hW.alike, hcell9, hv, hcl, hW, hsm.mono hc hs, hf⟩⟩
theorem vx_frame {U : State} {k n : Nat} (h : s.sameButNew ({ U with vm := s.vm } : State) locs k n) : s.heap.size ≤ U.heap.size ∧ ∀ q : Nat, q < s.heap.size → (∀ z ∈ locs, z.base ≠ q) → U.heap[q]? = s.heap[q]? := by
  obtain ⟨-, h2, -, -, -, h6⟩ := h
  refine ⟨h2, fun q hq hz => ?_⟩
  obtain ⟨c9, e1, e2, e3, e4⟩ := h6 q _ (Array.getElem?_eq_getElem hq)
  have hs : c9.slots = (s.heap[q]).slots := Array.ext_getElem? fun i => e4 i fun hm => hz _ hm rfl
  have h9 : c9 = s.heap[q] := by
    rw [hs] at e2
    exact e2
  have e5 : U.heap[q]? = some c9 := e1
  rw [e5, h9, Array.getElem?_eq_getElem hq]
/-- the words of a throw but the four that speak of the heap -/
def vx_no (w : Cond) : Bool := decide (w ≠ .isRef (.static Bundle.tN "UNASSIGNED_STACK" Bundle.steD)) && decide (w ≠ .isRef (.static Bundle.tN "SUPPRESSED_SENTINEL" Bundle.listD)) && decide (w ≠ .laysStatic Bundle.tN "UNASSIGNED_STACK" Bundle.steD) && decide (w ≠ .laysStatic Bundle.tN "SUPPRESSED_SENTINEL" Bundle.listD)
def vx_at0 (own : String) (ic : Nat) (X : String) (names : List String) : List Cond := (Bundle.ownAtoms0 own ic X names).filter vx_no
def vx_atS (own : String) (ic : Nat) (X : String) (names : List String) : List Cond := (Bundle.ownAtoms own ic X names).filter vx_no
/-- a word that the tables alone decide, or a good one -/
def vx_ot (w : Cond) : Bool := w.onTables || goodWord w
theorem vx_ot_at {args a' : Array Value} {s U : State} {w : Cond} (hW : s.WarmedH U.vm) (hvm : s.vm = U.vm) (hg : vx_ot w = true) (h : w.before args s = true) : w.before a' U = true := by
  simp only [vx_ot, Bool.or_eq_true] at hg
  rcases hg with hg | hg
  · exact va_tabs hg hvm h
  · exact word_at hW (good_of_word hg) h
/-- a list's words: the good ones out of the method's own list, the others by premises of their own -/
theorem vx_hat {args : Array Value} {s : State} {L B : List Cond} (h1 : ∀ w ∈ L.filter goodWord, w.before args s = true) (h2 : ∀ w ∈ L.filter (fun w => !goodWord w), w ∈ B) (h3 : ∀ w ∈ B, w.before args s = true) : ∀ w ∈ L, w.before args s = true := by
  intro w hw
  by_cases g : goodWord w = true
  · exact h1 w (List.mem_filter.mpr ⟨hw, g⟩)
  · refine h3 w (h2 w (List.mem_filter.mpr ⟨hw, ?_⟩))
    show (!goodWord w) = true
    cases hgw : goodWord w
    · rfl
    · exact absurd hgw g
theorem vx_c {args : Array Value} {s : State} {w : Cond} {B : List Cond} (h : w.before args s = true) (t : ∀ w ∈ B, w.before args s = true) : ∀ w' ∈ w :: B, w'.before args s = true := fun w' h' => (List.mem_cons.mp h').elim (fun e => by rw [e]; exact h) (t w')
theorem vx_n {args : Array Value} {s : State} : ∀ w ∈ ([] : List Cond), w.before args s = true := fun _ h => nomatch h
theorem vx_own {args : Array Value} {s : State} {L : List Cond} (h1 : ∀ w ∈ L.filter vx_no, w.before args s = true)
    (hU : (Cond.isRef (.static Bundle.tN "UNASSIGNED_STACK" Bundle.steD)).before args s = true) (hN : (Cond.isRef (.static Bundle.tN "SUPPRESSED_SENTINEL" Bundle.listD)).before args s = true)
    (lU : (Cond.laysStatic Bundle.tN "UNASSIGNED_STACK" Bundle.steD).before args s = true) (lN : (Cond.laysStatic Bundle.tN "SUPPRESSED_SENTINEL" Bundle.listD).before args s = true) : ∀ w ∈ L, w.before args s = true := by
  intro w hw
  by_cases e1 : w = .isRef (.static Bundle.tN "UNASSIGNED_STACK" Bundle.steD)
  · rw [e1]; exact hU
  · by_cases e2 : w = .isRef (.static Bundle.tN "SUPPRESSED_SENTINEL" Bundle.listD)
    · rw [e2]; exact hN
    · by_cases e3 : w = .laysStatic Bundle.tN "UNASSIGNED_STACK" Bundle.steD
      · rw [e3]; exact lU
      · by_cases e4 : w = .laysStatic Bundle.tN "SUPPRESSED_SENTINEL" Bundle.listD
        · rw [e4]; exact lN
        · exact h1 w (List.mem_filter.mpr ⟨hw, by unfold vx_no; rw [decide_eq_true e1, decide_eq_true e2, decide_eq_true e3, decide_eq_true e4]; rfl⟩)
/-- where a static field lies, its class's statics cell in H -/
def vx_L (C n d : String) (A : Nat → Prop) (U : State) (H : Heap) : Prop := ∃ (c : ClassId) (k : Class) (i : Nat) (f : Field) (a : Nat) (cell : Cell), U.vm.findClass C = some c ∧ U.fieldFound? C n d = some (c, k, i, f) ∧ f.isStatic = true ∧ k.statics = some a ∧ H[a]? = some cell ∧ cell.vm.isStatics = true ∧ cell.cls = c ∧ f.slot < cell.slots.size ∧ k.staticTypes[f.slot]? = some f.type ∧ ¬ A a
theorem vx_L.moved {C n d : String} {A : Nat → Prop} {u U : State} {H : Heap} (hvm : u.vm.Alike U.vm) (h : vx_L C n d A u H) : vx_L C n d A U H := by
  obtain ⟨c, k, i, f, a, cell, h1, h2, h3, h4, h5, h6, h7, h8, h9, h10⟩ := h
  obtain ⟨k', hi', he⟩ := State.fieldFound?_setVm hvm h2
  exact ⟨c, k', i, f, a, cell, by rw [hvm.findClass]; exact h1, hi', h3, by rw [he]; exact h4, h5, h6, h7, h8, by rw [he]; exact h9, h10⟩
theorem vx_L.kept {C n d : String} {A : Nat → Prop} {U : State} {H H1 : Heap} (h : vx_L C n d A U H) (hq : ∀ a : Nat, a < H.size → ¬ A a → H1[a]? = H[a]?) : vx_L C n d A U H1 := by
  obtain ⟨c, k, i, f, a, cell, h1, h2, h3, h4, h5, h6, h7, h8, h9, h10⟩ := h
  exact ⟨c, k, i, f, a, cell, h1, h2, h3, h4, by rw [hq a (Array.getElem?_eq_some_iff.mp h5).1 h10]; exact h5, h6, h7, h8, h9, h10⟩
theorem vx_L.narrow {C n d : String} {A B : Nat → Prop} {U : State} {H : Heap} (h : vx_L C n d A U H) (hAB : ∀ q, B q → A q) : vx_L C n d B U H := by
  obtain ⟨c, k, i, f, a, cell, h1, h2, h3, h4, h5, h6, h7, h8, h9, h10⟩ := h
  exact ⟨c, k, i, f, a, cell, h1, h2, h3, h4, h5, h6, h7, h8, h9, fun z => h10 (hAB _ z)⟩
theorem vx_L.word {C n d : String} {A : Nat → Prop} {s : State} {args : Array Value} (h : vx_L C n d A s s.heap) : (Cond.laysStatic C n d).before args s = true := by
  obtain ⟨c, k, i, f, a, cell, h1, h2, h3, h4, h5, h6, h7, h8, h9, -⟩ := h
  show (Cond.laysStatic C n d).holds args s none s [] = true
  exact Cond.laysStatic_of h1 h2 h3 h4 h5 h6 h7 h8 h9
/-- .. and what it holds: null or some reference -/
def vx_Zq (C n d : String) (A : Nat → Prop) (U : State) (H : Heap) : Prop := va_Zq C n d A U H ∧ vx_L C n d A U H
theorem vx_Zq.moved {C n d : String} {A : Nat → Prop} {u U : State} {H : Heap} (hvm : u.vm.Alike U.vm) (h : vx_Zq C n d A u H) : vx_Zq C n d A U H := ⟨va_Zq.moved hvm h.1, vx_L.moved hvm h.2⟩
theorem vx_Zq.kept {C n d : String} {A : Nat → Prop} {U : State} {H H1 : Heap} (h : vx_Zq C n d A U H) (hq : ∀ a : Nat, a < H.size → ¬ A a → H1[a]? = H[a]?) : vx_Zq C n d A U H1 := ⟨va_Zq.kept h.1 hq, vx_L.kept h.2 hq⟩
theorem vx_Zq.narrow {C n d : String} {A B : Nat → Prop} {U : State} {H : Heap} (h : vx_Zq C n d A U H) (hAB : ∀ q, B q → A q) : vx_Zq C n d B U H := ⟨va_Zq.narrow h.1 hAB, vx_L.narrow h.2 hAB⟩
theorem vx_Zqof {args : Array Value} {s : State} {C n d : String} {A : Nat → Prop} (hl : (Cond.laysStatic C n d).before args s = true) (hini : (Cond.initialized C).before args s = true) (h : (Cond.isRef (.static C n d)).before args s = true) (hA : ∀ a : Nat, a < s.heap.size → ¬ A a) : vx_Zq C n d A s s.heap := by
  refine ⟨va_Zqof hl hini h hA, ?_⟩
  obtain ⟨c, k, i, f, a, cell, h1, h2, h3, h4, h5, h6, h7, h8, h9⟩ := Cond.laysStatic_spec hl
  exact ⟨c, k, i, f, a, cell, h1, h2, h3, h4, h5, h6, h7, h8, h9, hA a (Array.getElem?_eq_some_iff.mp h5).1⟩
theorem vx_isRef {C n d : String} {v : Value} {A : Nat → Prop} {s : State} {args : Array Value} (h : va_Z C n d v A s s.heap) (hv : v.isRef = true) : (Cond.isRef (.static C n d)).before args s = true := by
  obtain ⟨cf, kf, fi, f, a, cell, h1, h2, h3, h4, h5, h6, h7, -⟩ := h
  have he : (Term.static C n d).eval args s none [] s = some v := by
    simp [Term.eval, State.fieldNamed?, h1, h2, h4, h5, h6, h7]
  simp only [Cond.before, Cond.holds, Cond.value, he]
  cases v <;> simp_all [Value.isRef]
theorem vx_isRefq {C n d : String} {A : Nat → Prop} {s : State} {args : Array Value} (h : va_Zq C n d A s s.heap) : (Cond.isRef (.static C n d)).before args s = true := by
  rcases h with h | ⟨t, h⟩
  · exact vx_isRef h rfl
  · exact vx_isRef h rfl
/-- the same frame, seen from here: as if the method were called anew in this heap -/
theorem vx_rebase {T : State} (X : Stand p l e R s m args below meth c T locs cells slots) {R' : Room} (hf : R'.frames ≤ R.frames) (hl : R'.locals ≤ R.locals) (hc : cells + R'.cells ≤ R.cells) (hs : slots + R'.slots ≤ R.slots) :
    Stand p l e R' ((T.setVm s.vm).setFrames (.invoking m args :: below)) m args below meth c T [] 0 0 := by
  have htop : (T.setVm s.vm).topJava?.isSome := X.here.top
  have hF : ((T.setVm s.vm).setFrames (.invoking m args :: below)).frames = .invoking m args :: below := State.frames_setFrames _ (State.cur_lt_of_top htop)
  obtain ⟨g₀, hg0⟩ := Option.isSome_iff_exists.mp htop
  obtain ⟨r, hr⟩ := State.topJava?_eq_some.mp hg0
  have hl9 : e.platform.stackLimits (T.setVm s.vm).me = e.platform.stackLimits s.me := X.limits
  have hb9 : (T.setVm s.vm).me.stackBytes = s.me.stackBytes := X.bytes
  refine ⟨X.admits, X.cas, X.clock, hF, ?_, X.hears, X.method, X.code, X.here, X.tail, X.warmed, ?_, ?_, ?_⟩
  · have h := X.room
    have hU : ((T.setVm s.vm).setFrames (.invoking m args :: below)).localsInUse = s.localsInUse := by
      rw [State.localsInUse_invoking hF (meth := meth) (c := c) X.method X.code, State.localsInUse_invoking X.frames X.method X.code]
    simp only [State.hasRoom, Bool.and_eq_true, decide_eq_true_eq] at h ⊢
    obtain ⟨⟨⟨⟨h1, h2, h3, h4, h5, h6⟩, h7⟩, h8⟩, h9⟩ := h
    rw [X.frames, List.length_cons] at h2 h3
    have q1 := X.heapSize
    have q2 := X.used
    simp only [hF, hU, List.length_cons, State.stackLimits_setFrames, State.stackBytes_setFrames, hl9, hb9]
    refine ⟨⟨⟨⟨by omega, by omega, by omega, by omega, by omega, h6⟩, ?_⟩, ?_⟩, X.book⟩
    · show T.heap.size + R'.cells ≤ e.platform.maxCells
      omega
    · show T.slotsUsed + R'.slots ≤ e.platform.maxSlots
      omega
  · rw [State.stackLimits_setFrames]; rfl
  · rw [State.stackBytes_setFrames]; rfl
  · refine ⟨?_, Nat.le_refl _, Nat.le_refl _, ?_, ?_, fun a c9 h9 => ⟨c9, h9, rfl, rfl, fun _ _ => rfl⟩⟩
    · obtain ⟨t, ht, -⟩ := State.frames_cons hr
      show T.setVm s.vm = { ((T.setVm s.vm).setFrames (.invoking m args :: below)).setFrames (T.setVm s.vm).frames with heap := T.heap, slotsUsed := T.slotsUsed }
      rw [State.setFrames_setFrames, State.setFrames_self ht]
      rfl
    · show T.slotsUsed = T.slotsUsed + ((T.heap.toList.drop T.heap.size).map (·.slots.size)).sum
      rw [List.drop_eq_nil_of_le (Nat.le_of_eq Array.length_toList)]
      rfl
    · show ((T.heap.toList.drop T.heap.size).map (·.slots.size)).sum ≤ 0
      rw [List.drop_eq_nil_of_le (Nat.le_of_eq Array.length_toList)]
      exact Nat.le_refl _
/-- 'throw new E()': new; dup; invokespecial; athrow -/
theorem vx_throw0 {cc : ByteArray} {pc : Nat} (hexec : p.tables.exec = Jvm.exec) (hb : c.code = cc) (hl : l.stackTraces = false) {own cls : String} {names : List String} {ik ic mc ms : Nat} {A : Nat → Prop}
    (hown : s.vm.findClass own = some m.cls) (hcls : Bundle.fit cls = true) (hnames : ∀ n ∈ names, Bundle.fit n = true)
    (hk : (Cond.classLink own ik cls).before args s = true) (hini : (Cond.initialized cls).before args s = true) (hat : ∀ w ∈ vx_at0 own ic cls names, w.before args s = true)
    (hgood : ∀ w ∈ Cond.classLink own ik cls :: Cond.initialized cls :: vx_at0 own ic cls names, vx_ot w = true)
    (hU : vx_Zq Bundle.tN "UNASSIGNED_STACK" Bundle.steD A s s.heap) (hN : vx_Zq Bundle.tN "SUPPRESSED_SENTINEL" Bundle.listD A s s.heap) (hS : va_S A s.heap H locs) (hsize : ls.size = c.maxLocals)
    (d0 : decode cc pc = .ok (.new ik, 3)) (d3 : decode cc (pc + 3) = .ok (.dup, 1)) (d4 : decode cc (pc + 4) = .ok (.invokespecial ic, 3)) (d7 : decode cc (pc + 7) = .ok (.athrow, 1))
    (hout : ∀ x ∈ c.exceptionTable.toList, covers x (pc + 7) = false)
    (hRframes : names.length + 3 < R.frames) (hRlocals : (rest.map fun v => v.category).sum + (13 * (names.length + 1) + 42) ≤ R.locals) (hRcells : cells + 1 ≤ R.cells) (hRslots : slots + 6 ≤ R.slots) (hlocks : meth.locks = false)
    (hx : ∀ t : State, s.vm.Alike t.vm → H.size ≤ t.heap.size → (∀ q : Nat, q < H.size → t.heap[q]? = H[q]?) → XC cls s t)
    (hf : ∀ z ∈ locs, free z.base) (hc : cells + 1 ≤ mc) (hs : slots + 6 ≤ ms) :
    W p l e R s m args below meth c H locs cells slots (vx_MQ below Qc XC args s mc ms free) (F0 m pc ls rest) := by
  intro T hT X
  have htr : e.platform.stackTraces = false := (show e.platform.stackTraces = l.stackTraces by rw [X.admits.platform]).trans hl
  have Y := vx_rebase X (R' := { frames := R.frames, locals := R.locals, cells := 1, slots := 6 }) (Nat.le_refl _) (Nat.le_refl _) hRcells hRslots
  obtain ⟨s', hA⟩ : ∃ z, z = (T.setVm s.vm).setFrames (.invoking m args :: below) := ⟨_, rfl⟩
  rw [← hA] at Y
  have hvm : s'.vm = s.vm := by rw [hA]; rfl
  have hhp : s'.heap = H := by rw [hA]; exact hT
  have hW0 : s.WarmedH s'.vm := by rw [hvm]; exact State.WarmedH.refl s
  have hat' : ∀ w ∈ vx_at0 own ic cls names, w.before args s' = true := fun w hw => vx_ot_at hW0 hvm.symm (hgood w (List.mem_cons_of_mem _ (List.mem_cons_of_mem _ hw))) (hat w hw)
  have hk' : (Cond.classLink own ik cls).before args s' = true := vx_ot_at hW0 hvm.symm (hgood _ List.mem_cons_self) hk
  have hini' : (Cond.initialized cls).before args s' = true := vx_ot_at hW0 hvm.symm (hgood _ (List.mem_cons_of_mem _ List.mem_cons_self)) hini
  have hU' : vx_Zq Bundle.tN "UNASSIGNED_STACK" Bundle.steD A s' s'.heap := by rw [hhp]; exact vx_Zq.moved hW0.alike (hU.kept hS.2.1)
  have hN' : vx_Zq Bundle.tN "SUPPRESSED_SENTINEL" Bundle.listD A s' s'.heap := by rw [hhp]; exact vx_Zq.moved hW0.alike (hN.kept hS.2.1)
  have h : ∀ w ∈ Bundle.ownAtoms0 own ic cls names, w.before args s' = true := vx_own hat' (vx_isRefq hU'.1) (vx_isRefq hN'.1) hU'.2.word hN'.2.word
  have hown' : s'.vm.findClass own = some m.cls := by rw [hvm]; exact hown
  have hins : (Cond.instantiable cls 6).before args s' = true := h _ (by simp [Bundle.ownAtoms0])
  obtain ⟨vm₁, cX, kX, hfX, hkX, -, -, X₁, st1⟩ := Y.newCold hexec (own := own) (C := cls) (index := ik) (n := 6) hown' hk' hins hini'
    (g := F0 m pc ls rest) rfl (by rw [hb]; exact d0) (Nat.le_refl _) (Nat.le_refl _)
  generalize hT1 : (T.setVm vm₁).pushCell { cls := cX, slots := kX.instanceTypes.map defaultValue, vm := .none } = T1 at X₁ st1
  have hcat : (Value.ref T.heap.size).category = 1 := rfl
  have hcellA : T1.heap[T.heap.size]? = some (freshCell cX kX) := by rw [← hT1]; exact State.heap_pushCell_size _ _
  have d3' : decode c.code (pc + 3) = .ok (.dup, 1) := by rw [hb]; exact d3
  obtain ⟨U, hsteps, hrun, hend, hW, hsame, ce, hce, hO⟩ := X₁.ctorThrow0 hexec htr (own := own) (cls := cls) (names := names) (ic := ic) hown' hcls hnames h (fun x hx => nomatch hx) hfX hkX hcellA (by rw [hhp, hT]; exact Nat.le_refl _)
    (g := { method := m, pc := pc + 4, locals := ls, stack := .ref T.heap.size :: .ref T.heap.size :: rest, locked := none }) rfl hsize rfl rfl (rest := rest) rfl
    (by rw [hb]; exact d4) (by rw [hb]; exact d7) hout hRframes (by simp only [List.map_cons, List.sum_cons, hcat]; omega) hlocks
  obtain ⟨f1, f2⟩ := vx_frame hsame
  rw [hhp] at f1 f2
  have hWs : s.WarmedH U.vm := State.WarmedH.trans hW0 hW
  have hcl : s.vm.findClass cls = some ce.cls := by
    have h9 := hO.cls
    rw [hvm] at h9
    exact h9
  have hall : s.sameButNew ({ U with vm := s.vm } : State) locs mc ms := by
    subst hA
    obtain ⟨e1, e2⟩ := hsame
    rw [State.setFrames_setFrames] at e1
    have h2 : (T.setVm s.vm).sameButNew ({ U with vm := s.vm } : State) [] (0 + 1) (0 + 6) := ⟨e1, e2⟩
    have h3 := X.same.trans h2
    rw [List.append_nil] at h3
    exact h3.mono hc hs
  refine ⟨U, ?_, .threw T.heap.size, hrun, hend, Or.inr ⟨T.heap.size, rfl, cls, ce, locs, hx U hWs.alike f1 (fun q hq => f2 q hq (fun z hz => nomatch hz)), hce, hO.vm, hcl, hWs, hall, hf⟩⟩
  refine st1 _ ?_
  show Steps p.tables e below (T1.setTop { method := m, pc := pc + 3, locals := ls, stack := .ref T.heap.size :: rest, locked := none }) _
  jvm_step X₁.here [X₁.here.top, hexec, d3', Value.category]
  exact hsteps
/-- 'throw new E("text")': new; dup; ldc; invokespecial; athrow -/
theorem vx_throwS {cc : ByteArray} {pc : Nat} (hexec : p.tables.exec = Jvm.exec) (hb : c.code = cc) (hl : l.stackTraces = false) {own cls text : String} {names : List String} {ik is ic mc ms sa : Nat} {A : Nat → Prop}
    (hown : s.vm.findClass own = some m.cls) (hcls : Bundle.fit cls = true) (hnames : ∀ n ∈ names, Bundle.fit n = true)
    (hk : (Cond.classLink own ik cls).before args s = true) (hini : (Cond.initialized cls).before args s = true) (hstr : vk_R own is text sa s) (hat : ∀ w ∈ vx_atS own ic cls names, w.before args s = true)
    (hgood : ∀ w ∈ Cond.classLink own ik cls :: Cond.initialized cls :: vx_atS own ic cls names, vx_ot w = true)
    (hU : vx_Zq Bundle.tN "UNASSIGNED_STACK" Bundle.steD A s s.heap) (hN : vx_Zq Bundle.tN "SUPPRESSED_SENTINEL" Bundle.listD A s s.heap) (hS : va_S A s.heap H locs) (hsize : ls.size = c.maxLocals)
    (d0 : decode cc pc = .ok (.new ik, 3)) (d3 : decode cc (pc + 3) = .ok (.dup, 1)) (d4 : decode cc (pc + 4) = .ok (.ldc is, 2)) (d6 : decode cc (pc + 6) = .ok (.invokespecial ic, 3)) (d9 : decode cc (pc + 9) = .ok (.athrow, 1))
    (hout : ∀ x ∈ c.exceptionTable.toList, covers x (pc + 9) = false)
    (hRframes : names.length + 3 < R.frames) (hRlocals : (rest.map fun v => v.category).sum + (13 * (names.length + 1) + 43) ≤ R.locals) (hRcells : cells + 1 ≤ R.cells) (hRslots : slots + 6 ≤ R.slots) (hlocks : meth.locks = false)
    (hx : ∀ t : State, s.vm.Alike t.vm → H.size ≤ t.heap.size → (∀ q : Nat, q < H.size → t.heap[q]? = H[q]?) → XC cls s t)
    (hf : ∀ z ∈ locs, free z.base) (hc : cells + 1 ≤ mc) (hs : slots + 6 ≤ ms) :
    W p l e R s m args below meth c H locs cells slots (vx_MQ below Qc XC args s mc ms free) (F0 m pc ls rest) := by
  intro T hT X
  have htr : e.platform.stackTraces = false := (show e.platform.stackTraces = l.stackTraces by rw [X.admits.platform]).trans hl
  have Y := vx_rebase X (R' := { frames := R.frames, locals := R.locals, cells := 1, slots := 6 }) (Nat.le_refl _) (Nat.le_refl _) hRcells hRslots
  obtain ⟨s', hA⟩ : ∃ z, z = (T.setVm s.vm).setFrames (.invoking m args :: below) := ⟨_, rfl⟩
  rw [← hA] at Y
  have hvm : s'.vm = s.vm := by rw [hA]; rfl
  have hhp : s'.heap = H := by rw [hA]; exact hT
  have hW0 : s.WarmedH s'.vm := by rw [hvm]; exact State.WarmedH.refl s
  have hat' : ∀ w ∈ vx_atS own ic cls names, w.before args s' = true := fun w hw => vx_ot_at hW0 hvm.symm (hgood w (List.mem_cons_of_mem _ (List.mem_cons_of_mem _ hw))) (hat w hw)
  have hk' : (Cond.classLink own ik cls).before args s' = true := vx_ot_at hW0 hvm.symm (hgood _ List.mem_cons_self) hk
  have hini' : (Cond.initialized cls).before args s' = true := vx_ot_at hW0 hvm.symm (hgood _ (List.mem_cons_of_mem _ List.mem_cons_self)) hini
  have hU' : vx_Zq Bundle.tN "UNASSIGNED_STACK" Bundle.steD A s' s'.heap := by rw [hhp]; exact vx_Zq.moved hW0.alike (hU.kept hS.2.1)
  have hN' : vx_Zq Bundle.tN "SUPPRESSED_SENTINEL" Bundle.listD A s' s'.heap := by rw [hhp]; exact vx_Zq.moved hW0.alike (hN.kept hS.2.1)
  have h : ∀ w ∈ Bundle.ownAtoms own ic cls names, w.before args s' = true := vx_own hat' (vx_isRefq hU'.1) (vx_isRefq hN'.1) hU'.2.word hN'.2.word
  have hown' : s'.vm.findClass own = some m.cls := by rw [hvm]; exact hown
  have hins : (Cond.instantiable cls 6).before args s' = true := h _ (by simp [Bundle.ownAtoms])
  obtain ⟨vm₁, cX, kX, hfX, hkX, -, -, X₁, st1⟩ := Y.newCold hexec (own := own) (C := cls) (index := ik) (n := 6) hown' hk' hins hini'
    (g := F0 m pc ls rest) rfl (by rw [hb]; exact d0) (Nat.le_refl _) (Nat.le_refl _)
  generalize hT1 : (T.setVm vm₁).pushCell { cls := cX, slots := kX.instanceTypes.map defaultValue, vm := .none } = T1 at X₁ st1
  have hcat : (Value.ref T.heap.size).category = 1 := rfl
  have hcellA : T1.heap[T.heap.size]? = some (freshCell cX kX) := by rw [← hT1]; exact State.heap_pushCell_size _ _
  have d3' : decode c.code (pc + 3) = .ok (.dup, 1) := by rw [hb]; exact d3
  have d4' : decode c.code (pc + 4) = .ok (.ldc is, 2) := by rw [hb]; exact d4
  have hstr' : vk_R own is text sa s' := vk_R.warm hW0 hstr
  obtain ⟨U, hsteps, hrun, hend, hW, hsame, ce, hce, hO⟩ := X₁.ctorThrowS hexec htr (own := own) (cls := cls) (names := names) (ic := ic) hown' hcls hnames h (fun x hx => nomatch hx) hfX hkX hcellA (by rw [hhp, hT]; exact Nat.le_refl _) (msg := .ref sa) rfl
    (g := { method := m, pc := pc + 6, locals := ls, stack := .ref sa :: .ref T.heap.size :: .ref T.heap.size :: rest, locked := none }) rfl hsize rfl rfl (rest := rest) rfl
    (by rw [hb]; exact d6) (by rw [hb]; exact d9) hout hRframes (by simp only [List.map_cons, List.sum_cons, hcat]; omega) hlocks
  obtain ⟨f1, f2⟩ := vx_frame hsame
  rw [hhp] at f1 f2
  have hWs : s.WarmedH U.vm := State.WarmedH.trans hW0 hW
  have hcl : s.vm.findClass cls = some ce.cls := by
    have h9 := hO.cls
    rw [hvm] at h9
    exact h9
  have hall : s.sameButNew ({ U with vm := s.vm } : State) locs mc ms := by
    subst hA
    obtain ⟨e1, e2⟩ := hsame
    rw [State.setFrames_setFrames] at e1
    have h2 : (T.setVm s.vm).sameButNew ({ U with vm := s.vm } : State) [] (0 + 1) (0 + 6) := ⟨e1, e2⟩
    have h3 := X.same.trans h2
    rw [List.append_nil] at h3
    exact h3.mono hc hs
  refine ⟨U, ?_, .threw T.heap.size, hrun, hend, Or.inr ⟨T.heap.size, rfl, cls, ce, locs, hx U hWs.alike f1 (fun q hq => f2 q hq (fun z hz => nomatch hz)), hce, hO.vm, hcl, hWs, hall, hf⟩⟩
  refine st1 _ ?_
  show Steps p.tables e below (T1.setTop { method := m, pc := pc + 3, locals := ls, stack := .ref T.heap.size :: rest, locked := none }) _
  jvm_step X₁.here [X₁.here.top, hexec, d3', Value.category]
  exact X₁.ldcString hexec (own := own) (text := text) (index := is) (a := sa) hown' hstr'.1 hstr'.2
    (g := { method := m, pc := pc + 4, locals := ls, stack := .ref T.heap.size :: .ref T.heap.size :: rest, locked := none }) rfl d4' _ hsteps
/-- 'throw new E("text")', the text by a wide index -/
theorem vx_throwSW {cc : ByteArray} {pc : Nat} (hexec : p.tables.exec = Jvm.exec) (hb : c.code = cc) (hl : l.stackTraces = false) {own cls text : String} {names : List String} {ik is ic mc ms sa : Nat} {A : Nat → Prop}
    (hown : s.vm.findClass own = some m.cls) (hcls : Bundle.fit cls = true) (hnames : ∀ n ∈ names, Bundle.fit n = true)
    (hk : (Cond.classLink own ik cls).before args s = true) (hini : (Cond.initialized cls).before args s = true) (hstr : vk_R own is text sa s) (hat : ∀ w ∈ vx_atS own ic cls names, w.before args s = true)
    (hgood : ∀ w ∈ Cond.classLink own ik cls :: Cond.initialized cls :: vx_atS own ic cls names, vx_ot w = true)
    (hU : vx_Zq Bundle.tN "UNASSIGNED_STACK" Bundle.steD A s s.heap) (hN : vx_Zq Bundle.tN "SUPPRESSED_SENTINEL" Bundle.listD A s s.heap) (hS : va_S A s.heap H locs) (hsize : ls.size = c.maxLocals)
    (d0 : decode cc pc = .ok (.new ik, 3)) (d3 : decode cc (pc + 3) = .ok (.dup, 1)) (d4 : decode cc (pc + 4) = .ok (.ldc_w is, 3)) (d7 : decode cc (pc + 7) = .ok (.invokespecial ic, 3)) (d10 : decode cc (pc + 10) = .ok (.athrow, 1))
    (hout : ∀ x ∈ c.exceptionTable.toList, covers x (pc + 10) = false)
    (hRframes : names.length + 3 < R.frames) (hRlocals : (rest.map fun v => v.category).sum + (13 * (names.length + 1) + 43) ≤ R.locals) (hRcells : cells + 1 ≤ R.cells) (hRslots : slots + 6 ≤ R.slots) (hlocks : meth.locks = false)
    (hx : ∀ t : State, s.vm.Alike t.vm → H.size ≤ t.heap.size → (∀ q : Nat, q < H.size → t.heap[q]? = H[q]?) → XC cls s t)
    (hf : ∀ z ∈ locs, free z.base) (hc : cells + 1 ≤ mc) (hs : slots + 6 ≤ ms) :
    W p l e R s m args below meth c H locs cells slots (vx_MQ below Qc XC args s mc ms free) (F0 m pc ls rest) := by
  intro T hT X
  have htr : e.platform.stackTraces = false := (show e.platform.stackTraces = l.stackTraces by rw [X.admits.platform]).trans hl
  have Y := vx_rebase X (R' := { frames := R.frames, locals := R.locals, cells := 1, slots := 6 }) (Nat.le_refl _) (Nat.le_refl _) hRcells hRslots
  obtain ⟨s', hA⟩ : ∃ z, z = (T.setVm s.vm).setFrames (.invoking m args :: below) := ⟨_, rfl⟩
  rw [← hA] at Y
  have hvm : s'.vm = s.vm := by rw [hA]; rfl
  have hhp : s'.heap = H := by rw [hA]; exact hT
  have hW0 : s.WarmedH s'.vm := by rw [hvm]; exact State.WarmedH.refl s
  have hat' : ∀ w ∈ vx_atS own ic cls names, w.before args s' = true := fun w hw => vx_ot_at hW0 hvm.symm (hgood w (List.mem_cons_of_mem _ (List.mem_cons_of_mem _ hw))) (hat w hw)
  have hk' : (Cond.classLink own ik cls).before args s' = true := vx_ot_at hW0 hvm.symm (hgood _ List.mem_cons_self) hk
  have hini' : (Cond.initialized cls).before args s' = true := vx_ot_at hW0 hvm.symm (hgood _ (List.mem_cons_of_mem _ List.mem_cons_self)) hini
  have hU' : vx_Zq Bundle.tN "UNASSIGNED_STACK" Bundle.steD A s' s'.heap := by rw [hhp]; exact vx_Zq.moved hW0.alike (hU.kept hS.2.1)
  have hN' : vx_Zq Bundle.tN "SUPPRESSED_SENTINEL" Bundle.listD A s' s'.heap := by rw [hhp]; exact vx_Zq.moved hW0.alike (hN.kept hS.2.1)
  have h : ∀ w ∈ Bundle.ownAtoms own ic cls names, w.before args s' = true := vx_own hat' (vx_isRefq hU'.1) (vx_isRefq hN'.1) hU'.2.word hN'.2.word
  have hown' : s'.vm.findClass own = some m.cls := by rw [hvm]; exact hown
  have hins : (Cond.instantiable cls 6).before args s' = true := h _ (by simp [Bundle.ownAtoms])
  obtain ⟨vm₁, cX, kX, hfX, hkX, -, -, X₁, st1⟩ := Y.newCold hexec (own := own) (C := cls) (index := ik) (n := 6) hown' hk' hins hini'
    (g := F0 m pc ls rest) rfl (by rw [hb]; exact d0) (Nat.le_refl _) (Nat.le_refl _)
  generalize hT1 : (T.setVm vm₁).pushCell { cls := cX, slots := kX.instanceTypes.map defaultValue, vm := .none } = T1 at X₁ st1
  have hcat : (Value.ref T.heap.size).category = 1 := rfl
  have hcellA : T1.heap[T.heap.size]? = some (freshCell cX kX) := by rw [← hT1]; exact State.heap_pushCell_size _ _
  have d3' : decode c.code (pc + 3) = .ok (.dup, 1) := by rw [hb]; exact d3
  have d4' : decode c.code (pc + 4) = .ok (.ldc_w is, 3) := by rw [hb]; exact d4
  have hstr' : vk_R own is text sa s' := vk_R.warm hW0 hstr
  obtain ⟨U, hsteps, hrun, hend, hW, hsame, ce, hce, hO⟩ := X₁.ctorThrowS hexec htr (own := own) (cls := cls) (names := names) (ic := ic) hown' hcls hnames h (fun x hx => nomatch hx) hfX hkX hcellA (by rw [hhp, hT]; exact Nat.le_refl _) (msg := .ref sa) rfl
    (g := { method := m, pc := pc + 7, locals := ls, stack := .ref sa :: .ref T.heap.size :: .ref T.heap.size :: rest, locked := none }) rfl hsize rfl rfl (rest := rest) rfl
    (by rw [hb]; exact d7) (by rw [hb]; exact d10) hout hRframes (by simp only [List.map_cons, List.sum_cons, hcat]; omega) hlocks
  obtain ⟨f1, f2⟩ := vx_frame hsame
  rw [hhp] at f1 f2
  have hWs : s.WarmedH U.vm := State.WarmedH.trans hW0 hW
  have hcl : s.vm.findClass cls = some ce.cls := by
    have h9 := hO.cls
    rw [hvm] at h9
    exact h9
  have hall : s.sameButNew ({ U with vm := s.vm } : State) locs mc ms := by
    subst hA
    obtain ⟨e1, e2⟩ := hsame
    rw [State.setFrames_setFrames] at e1
    have h2 : (T.setVm s.vm).sameButNew ({ U with vm := s.vm } : State) [] (0 + 1) (0 + 6) := ⟨e1, e2⟩
    have h3 := X.same.trans h2
    rw [List.append_nil] at h3
    exact h3.mono hc hs
  refine ⟨U, ?_, .threw T.heap.size, hrun, hend, Or.inr ⟨T.heap.size, rfl, cls, ce, locs, hx U hWs.alike f1 (fun q hq => f2 q hq (fun z hz => nomatch hz)), hce, hO.vm, hcl, hWs, hall, hf⟩⟩
  refine st1 _ ?_
  show Steps p.tables e below (T1.setTop { method := m, pc := pc + 3, locals := ls, stack := .ref T.heap.size :: rest, locked := none }) _
  jvm_step X₁.here [X₁.here.top, hexec, d3', Value.category]
  exact X₁.ldcStringW hexec (own := own) (text := text) (index := is) (a := sa) hown' hstr'.1 hstr'.2
    (g := { method := m, pc := pc + 4, locals := ls, stack := .ref T.heap.size :: .ref T.heap.size :: rest, locked := none }) rfl d4' _ hsteps
end Ends
section Bodies
variable {l : Launch}
theorem vx_ofW {y : MethodName} {ws ws' : List Cond} {rm : Room} {Pc : Array Value → State → Prop} {Qc : Array Value → State → Outcome → State → Prop} {XC : String → State → State → Prop} {mc ms : Nat} {free : Addr → Prop} {cc : ByteArray} {maxL : Nat} {ret : Option FieldType}
    (hy : plainName y.cls = true) (hw : ws = Cond.code y cc maxL ret :: ws')
    (body : ∀ p e s m args below meth c s₁, BodyLoose p l y (headSpec ws rm) cc maxL ret e s m args below meth c s₁ → c.maxLocals = maxL → (∀ x ∈ c.exceptionTable.toList, False) → Pc args s →
      W p l e (headSpec ws rm).room s m args below meth c s.heap [] 0 0 (vx_MQ below Qc XC args s mc ms free) (entryFrame m args maxL)) : vx_Met l y ws rm Pc Qc XC mc ms free := by
  refine MetFree.of_bodyS (code := cc) (maxLocals := maxL) (ret := ret) hy ?_ ?_
  · intro args s m h hn
    obtain ⟨meth, c, h1, h2, h3, h4, h5, h6, -, -⟩ := Cond.code_spec hn (atoms_spec (ws := ws) h _ (by rw [hw]; exact List.mem_cons_self))
    exact ⟨meth, c, h1, h2, h3, h4, h5, h6⟩
  · intro p e s m args below meth c s₁ B hml hP _
    have hh0 : s₁.heap = s.heap := by rw [B.state]; rfl
    have ht : ∀ x ∈ c.exceptionTable.toList, False := by
      obtain ⟨meth9, c9, h1, h2, -, -, -, -, h7, -⟩ := Cond.code_spec B.named (atoms_spec (ws := ws) B.pre _ (by rw [hw]; exact List.mem_cons_self))
      cases Option.some.inj (h1.symm.trans B.method)
      cases Option.some.inj (h2.symm.trans (Stand.of_body B).code)
      intro x hx
      rw [Array.isEmpty_iff.mp h7] at hx
      cases hx
    obtain ⟨t, a1, o, b1, b2, b3⟩ := body p e s m args below meth c s₁ B hml ht hP s₁ hh0 (Stand.of_body B)
    exact ⟨t, o, a1, b1, b2, b3⟩
/-- the table of a body with handlers -/
theorem vx_table {p : Program} {x y : MethodName} {S : Spec} {cc bytes : ByteArray} {maxL maxL' : Nat} {ret ret' : Option FieldType} {e : Env} {s s₁ : State} {m : MethodId} {args : Array Value} {below : List Frame} {meth : Method} {c : Code} {hh : List (Nat × Nat × Nat × Nat)}
    (B : BodyLoose p l y S cc maxL ret e s m args below meth c s₁) (h : (Cond.codeWith y bytes maxL' ret' hh).before args s = true) : c.exceptionTable.toList = tableOf hh := by
  obtain ⟨m9, meth9, c9, hn9, h1, h2, -, -, h6, -⟩ := Cond.codeWith_spec h
  cases Option.some.inj (hn9.symm.trans B.named)
  cases Option.some.inj (h1.symm.trans B.method)
  cases Option.some.inj (h2.symm.trans (Stand.of_body B).code)
  rw [← h6, table_eq]
end Bodies
end VXA
/-! ===== END ===== -/
/-! ===== BEGIN a static call of a method with an exception table ===== -/
section VXS
variable {p : Program} {l : Launch} {e : Env} {R : Room} {s : State} {m : MethodId} {args : Array Value} {below : List Frame} {meth : Method} {c : Code} {T : State} {H : Heap} {locs : List Loc} {cells slots : Nat}
abbrev vx_CSW (R : Room) (s : State) (args : Array Value) (own : String) (index : Nat) (y : MethodName) (bytes : ByteArray) (maxL : Nat) (ret : Option FieldType) (hh : List (Nat × Nat × Nat × Nat)) (ws : List Cond) (rm : Room) (mc ms n : Nat) : Prop :=
  (rm.cells = mc ∧ rm.slots = ms ∧ rm.frames + 1 ≤ R.frames ∧ 8 + (maxL + 11) + rm.locals ≤ R.locals ∧ (∀ w ∈ ws, ∀ (a' : Array Value) (U : State), s.WarmedH U.vm → w.before a' U = true) ∧ Cond.codeWith y bytes maxL ret hh ∈ ws) ∧
  (Cond.codeWith y bytes maxL ret hh).before args s = true ∧ (Cond.initialized y.cls).before args s = true ∧ (y.cls ≠ "java/lang/invoke/MethodHandle" ∧ y.cls ≠ "java/lang/invoke/VarHandle") ∧
  (∀ sig, parseMethodDescriptor y.desc = some sig → n = sig.parameters.length) ∧ (Cond.methodLink own index y).before args s = true ∧ (Cond.static y).before args s = true
theorem vx_cwSW {own : String} {index maxL mc ms : Nat} {y : MethodName} {bytes : ByteArray} {ret : Option FieldType} {hh : List (Nat × Nat × Nat × Nat)} {Ts ws ws' : List Cond} {rm : Room} (n : Nat) (ht : ∀ w ∈ Ts, w.before args s = true) (hT : GoodIn Ts (va_wsS own index y ws)) (hw : ws = Cond.codeWith y bytes maxL ret hh :: ws') (hrc : rm.cells = mc) (hrs : rm.slots = ms)
    (hd : y.cls ≠ "java/lang/invoke/MethodHandle" ∧ y.cls ≠ "java/lang/invoke/VarHandle" ∧ (parseMethodDescriptor y.desc).map (fun d => d.parameters.length) = some n) (hR : rm.frames + 1 ≤ R.frames ∧ 8 + (maxL + 11) + rm.locals ≤ R.locals) :
    vx_CSW R s args own index y bytes maxL ret hh ws rm mc ms n := by
  have ok : ∀ w ∈ va_wsS own index y ws, w.before args s = true := fun w h => ht w (hT w h).1
  have hG : GoodIn Ts ws := fun w h => hT w (by unfold va_wsS; exact List.mem_append_right _ h)
  have hc : Cond.codeWith y bytes maxL ret hh ∈ ws := by rw [hw]; exact List.mem_cons_self
  refine ⟨⟨hrc, hrs, hR.1, hR.2, pay_in ht hG, hc⟩, ht _ (hG _ hc).1, ok _ (by simp [va_wsS]), ⟨hd.1, hd.2.1⟩, fun sig h => ?_, ok _ (by simp [va_wsS]), ok _ (by simp [va_wsS])⟩
  have h2 := hd.2.2
  rw [h] at h2
  exact (Option.some.inj h2).symm
theorem vx_callSW (X : Stand p l e R s m args below meth c T locs cells slots) (hexec : p.tables.exec = Jvm.exec) {own : String} {index : Nat} {y : MethodName} {bytes : ByteArray} {maxL : Nat} {ret : Option FieldType} {hh : List (Nat × Nat × Nat × Nat)}
    (hown : s.vm.findClass own = some m.cls) (hlink : (Cond.methodLink own index y).before args s = true) (hstat : (Cond.static y).before args s = true) (hinit : (Cond.initialized y.cls).before args s = true)
    (hcode : (Cond.codeWith y bytes maxL ret hh).before args s = true) (hy : y.cls ≠ "java/lang/invoke/MethodHandle" ∧ y.cls ≠ "java/lang/invoke/VarHandle")
    {W9 : Nat} {Pre : Pt → Array Value → Prop} {Post : Pt → Array Value → Option Value → Pt → Prop} (hK : Back l R p e below s args y 3 W9 Pre Post)
    {g : JFrame} (hg : g.method = m) (hsize : g.locals.size = c.maxLocals) {argsL rest : List Value} (hlen : ∀ sig, parseMethodDescriptor y.desc = some sig → argsL.length = sig.parameters.length)
    (hstack : g.stack = argsL.reverse ++ rest) (hW : 2 * g.monitorRoom + (rest.map fun v => v.category).sum ≤ W9) (hdg : decode c.code g.pc = .ok (.invokestatic index, 3))
    (hpre : ∀ vm₁, s.WarmedH vm₁ → Pre ⟨T.setVm vm₁, locs, cells, slots⟩ argsL.toArray) :
    ∃ (v : Option Value) (vm₁ : Vm) (B : Pt), s.WarmedH vm₁ ∧ Stand p l e R s m args below meth c B.U B.locs B.cells B.slots ∧ Post ⟨T.setVm vm₁, locs, cells, slots⟩ argsL.toArray v B ∧
      ∀ target, Steps p.tables e below (B.U.setTop { g with pc := g.pc + 3, stack := v.toList ++ rest }) target → Steps p.tables e below (T.setTop g) target := by
  obtain ⟨mk, methM, cM, hnamed, hmethM, -, -, -, -, -, -, hsigM⟩ := Cond.codeWith_spec hcode
  have hstatic : methM.isStatic = true := Cond.static_spec hnamed hmethM hstat
  obtain ⟨kP, hkP, -⟩ := className_of_methodNamed hnamed
  have hinitP : kP.init = .initialized := Cond.initialized_spec (findClass_of_methodNamed hnamed) hkP hinit
  obtain ⟨vm₁, X₁, hstep₁⟩ := X.invokestatic hexec hown hlink hnamed hmethM hstatic hkP hinitP hy (g := g) hg (argsL := argsL) (rest := rest) (hlen _ hsigM) hstack hdg
  obtain ⟨v, B, X', hpost, hsteps⟩ := hK m meth c ⟨T.setVm vm₁, locs, cells, slots⟩ { g with stack := rest } (.invokestatic index) mk argsL.toArray X₁ hg hsize hdg hW (X₁.named hnamed) (hpre vm₁ X₁.warmed)
  exact ⟨v, vm₁, B, X₁.warmed, X', hpost, fun target h => hstep₁ _ fun acts => by rw [doInvoke_state]; exact hsteps.trans h⟩
theorem vx_runSW {y : MethodName} {bytes cc : ByteArray} {maxL nL mc ms n index : Nat} {ret : Option FieldType} {hh : List (Nat × Nat × Nat × Nat)} {ws : List Cond} {rm : Room} {Pc : Array Value → State → Prop} {Qc : Array Value → State → Outcome → State → Prop} {free : Addr → Prop} {Ts : List Cond} {own : String} {As rest : List Value} {g : JFrame}
    (S : CallFix p m c cc nL s args Ts own) (hM : Met l y ws rm Pc Qc mc ms free) (cw : vx_CSW R s args own index y bytes maxL ret hh ws rm mc ms n) (hp : PreS s H Pc As)
    (hg : g.method = m) (hn : As.length = n) (hsize : g.locals.size = nL) (hstack : g.stack = As.reverse ++ rest) (hW : 2 * g.monitorRoom + (rest.map fun v => v.category).sum ≤ 8) (hdg : decode cc g.pc = .ok (.invokestatic index, 3)) (hf : cells + mc ≤ R.cells ∧ slots + ms ≤ R.slots) :
    va_Run p l e R s m args below meth c H locs cells slots mc ms g rest (Qc As.toArray) (free) := by
  obtain ⟨⟨hrc, hrs, hfr, hlo, hws, hcw⟩, hcode, hini, hy, hlen, hl, hstt⟩ := cw
  have hK : Back l R p e below s args y 3 8 (PreOf R mc ms Pc) (PostOf Qc mc ms free) := va_backW (hh := hh) (bytes := bytes) (maxL := maxL) (ret := ret) hM hp.1 hrc hrs hfr hlo hws hcw (fun a' U hW => word_at hW (Or.inl (by first | rfl | simp [Cond.onTables, Cond.keeps, Cond.steady])) hini)
  obtain ⟨hx, hb, hml, ho, -⟩ := S
  intro T hT X
  obtain ⟨v, vm₁, ⟨U', l2, c2, s2⟩, hW₁, X', ⟨g', mk, t, L, e1, e2, hq, h1, hL, h2, h3⟩, st⟩ := vx_callSW X hx (hh := hh) (bytes := bytes) (maxL := maxL) (ret := ret) ho hl hstt hini hcode hy hK hg (hsize.trans hml.symm) (argsL := As) (rest := rest) (fun sig h => hn.trans (hlen sig h)) hstack hW (by rw [hb]; exact hdg)
    (fun vm₁ hW₁ => ⟨hf.1, hf.2, hp.2 (T.setVm vm₁) hT hW₁⟩)
  dsimp only [Pt.U, Pt.locs, Pt.cells, Pt.slots] at X' e1 e2 h1 h2 h3 st
  subst h1; subst h2; subst h3
  exact ⟨v, (T.setVm vm₁).calling g' mk As.toArray, t, U', L, hT, X', hL, e1, e2, hq, st⟩
/-- not caught here, past rows that name other classes: it goes on to the caller -/
theorem vx_outP {p : Program} {l : Launch} {e : Env} {R : Room} {s : State} {m : MethodId} {args : Array Value} {below : List Frame} {meth : Method} {c : Code} {H : Heap} {locs : List Loc} {cells slots : Nat} {free : Addr → Prop} {ls : Array Slot} {rest : List Value} {Qc : Array Value → State → Outcome → State → Prop} {XC : String → State → State → Prop}
    {pc : Nat} {own E : String} {ce : Cell} {q : Addr} {mc ms : Nat} (hown : s.vm.findClass own = some m.cls) (hlocks : meth.locks = false)
    (hpass : ∀ z ∈ c.exceptionTable.toList, covers z pc = false ∨ (z.catchType ≠ 0 ∧ ∃ nm : String, (Cond.classLink own z.catchType nm).before args s = true ∧ va_Nc E nm s)) (hcell : H[q]? = some ce) (hv : ce.vm = .none) (hcl : s.vm.findClass E = some ce.cls)
    (hx : ∀ t : State, t.heap = H → s.vm.Alike t.vm → XC E s t) (hf : ∀ z ∈ locs, free z.base) (hc : cells ≤ mc) (hs : slots ≤ ms) :
    vx_W p l e R s m args below meth c H locs cells slots (vx_MQ below Qc XC args s mc ms free) (F0 m pc ls rest) q := by
  intro T hT X
  have hpl : e.platform.magicAccessors = ({} : Platform).magicAccessors := by rw [X.admits.platform]
  obtain ⟨vm', hW', X', st⟩ := X.outThrough hlocks q (g := F0 m pc ls rest) rfl rfl rfl (cell := ce) (by rw [hT]; exact hcell) (by rw [hv]; rfl)
    (by obtain ⟨k9, h9, -⟩ := Vm.findClass_spec hcl; exact ⟨k9, h9⟩) (fun z hz => by
      rcases hpass z hz with h | ⟨hz0, nm, hl1, hn1⟩
      · exact Or.inl h
      · obtain ⟨c6, hc6, hcl6⟩ := Cond.classLink_spec hown hl1 e.platform hpl
        obtain ⟨a8, b8, h1, h2, h3⟩ := hn1
        cases Option.some.inj (h1.symm.trans hcl)
        cases Option.some.inj (h2.symm.trans hc6)
        exact Or.inr ⟨hz0, _, hcl6, h3⟩)
  obtain ⟨g₀, hfr⟩ := X'.frames_eq
  have hcell9 : ((T.setVm vm').setFrames (.throwing q :: below)).heap[q]? = some ce := by
    show T.heap[q]? = some ce
    rw [hT]; exact hcell
  have hend : Ended ((T.setVm vm').setFrames (.throwing q :: below)) below (.threw q) := State.frames_setFrames _ (State.cur_lt_of_frames hfr)
  refine ⟨(T.setVm vm').setFrames (.throwing q :: below), ?_, .threw q, X'.here.running, hend, Or.inr ⟨q, rfl, E, ce, locs, hx _ hT (X'.ends _).1.alike, hcell9, hv, hcl, (X'.ends _).1, (X'.ends _).2.mono hc hs, hf⟩⟩
  rw [X.pushThrowing_eq]
  exact st
/-- a thing of a world lies in the heap -/
theorem vx_lt {D : va_G} {cl : List vw_C} {ws : va_W} {H1 : Heap} (h : va_P D cl ws H1) {k : Nat} {q : Nat × va_E} (hk : ws[k]? = some q) : q.1 < H1.size := (h k q hk).lt
end VXS
/-! ===== END ===== -/
/-! ===== BEGIN methods with a table of their own: called by a name, returning or throwing ===== -/
section VXH
/-! vx_backW, vx_callVX, vx_callSX, vx_callVW, vx_runVW, vx_runVX, vx_runSX, vx_ofWH follow the same proofs as their sisters above (Free/Laws.lean, Shelf42/LK1.lean); vx_outP calls Shelf42/NT130.lean (outThrough). -/
section
variable {l : Launch} {R : Room} {p : Program} {e : Env} {below : List Frame} {s : State} {sargs : Array Value} {y : MethodName} {len W9 : Nat}
theorem vx_backW {ws : List Cond} {rm : Room} {Pc : Array Value → State → Prop} {Qc : Array Value → State → Outcome → State → Prop} {XC : String → State → State → Prop} {mc ms : Nat} {free : Addr → Prop} {bytes : ByteArray} {maxL : Nat} {ret : Option FieldType} {hh : List (Nat × Nat × Nat × Nat)}
    (hM : vx_Met l y ws rm Pc Qc XC mc ms free) (hblind : FrameBlind Pc) (hrc : rm.cells = mc) (hrs : rm.slots = ms)
    (hframes : rm.frames + 1 ≤ R.frames) (hlocals : W9 + (maxL + 11) + rm.locals ≤ R.locals)
    (hws : ∀ w ∈ ws, ∀ a' U, s.WarmedH U.vm → w.before a' U = true) (hcode : Cond.codeWith y bytes maxL ret hh ∈ ws) (hinit : ∀ a' U, s.WarmedH U.vm → (Cond.initialized y.cls).before a' U = true) :
    vx_Back l R p e below s sargs y len W9 (PreOf R mc ms Pc) (PostOf Qc mc ms free) (vx_Post XC mc ms free) := by
  intro m meth c A g ig mk a X hg hsize hdg hW hn hp
  have h1 : (headSpec ws rm).pre.before a A.U = true := atoms_intro fun w hw => hws w hw _ _ X.warmed
  have h2 : (Cond.codeWith y bytes maxL ret hh).before a A.U = true := hws _ hcode _ _ X.warmed
  have h3 : (Cond.initialized y.cls).before a A.U = true := hinit _ _ X.warmed
  have h4 : A.cells + (headSpec ws rm).room.cells ≤ R.cells := by rw [show (headSpec ws rm).room.cells = mc from hrc]; exact hp.1
  have h5 : A.slots + (headSpec ws rm).room.slots ≤ R.slots := by rw [show (headSpec ws rm).room.slots = ms from hrs]; exact hp.2.1
  have hPc : Pc a (A.U.calling g mk a) := hblind _ _ _ _ hp.2.2
  obtain ⟨U, Ls, c0, s0⟩ := A
  dsimp only [Pt.U, Pt.locs, Pt.cells, Pt.slots] at h1 h2 h3 h4 h5 X hn hPc ⊢
  obtain ⟨m9, methY, cY, hn9, hmY, hcY, -, hlY, -⟩ := Cond.codeWith_spec h2
  cases Option.some.inj (hn9.symm.trans hn)
  obtain ⟨kY, hkY, -⟩ := className_of_methodNamed hn
  have hinitY : kY.init = .initialized := Cond.initialized_spec (findClass_of_methodNamed hn) hkY h3
  have h : At U g.method c below := by rw [hg]; exact X.here
  have hlocals9 : W9 + (maxL + 11) + (headSpec ws rm).room.locals ≤ R.locals := hlocals
  have happ : (headSpec ws rm).appliesLoose y e.platform (U.calling g mk a) = true :=
    Spec.appliesLoose_calling (g := g) h hdg hn hkY hinitY
      (X.room_calling (g := g) (R' := (headSpec ws rm).room) hsize hmY hcY hframes (by rw [hlY]; omega) h4 h5) h1
  obtain ⟨mid, hmid⟩ := h.above
  have hfr : (U.setTop g).frames = (.java g :: mid) ++ below := by rw [State.frames_setTop' g h.top, hmid]; rfl
  obtain ⟨o, s₂, hsteps, -, hend, hq⟩ := Steps.callFree hM p X.admits X.cas X.clock (acts := []) hfr happ hPc trivial
  have hq' : vx_Q Qc XC mc ms free a (U.calling g mk a) o s₂ := hq
  rw [State.frames_setTop' g h.top] at hend
  obtain ⟨g₀, hg0⟩ := Option.isSome_iff_exists.mp h.top
  obtain ⟨r, hr⟩ := State.topJava?_eq_some.mp hg0
  have hr' : (({ U with heap := s₂.heap, slotsUsed := s₂.slotsUsed } : State).setVm s₂.vm).frames = .java g₀ :: r := hr
  rcases hq' with ⟨hqc, L, hfe, hL⟩ | ⟨q, rfl, E, ce, L, hx, hce, hcv, hcl, hW₂, hsm, hL⟩
  · obtain ⟨⟨v, rfl⟩, hW₂, e2, q2, q3, q4, q5, q6⟩ := id hfe
    have e3 : s₂ = ({ (U.calling g mk a).setFrames s₂.frames with heap := s₂.heap, slotsUsed := s₂.slotsUsed } : State).setVm s₂.vm := by
      have : s₂ = ({ s₂ with vm := (U.calling g mk a).vm } : State).setVm s₂.vm := rfl
      rw [e2] at this
      exact this
    obtain ⟨c₂, i₂, len₂, hc₂, hd₂, hf₂⟩ := hend
    have hW' : U.WarmedH s₂.vm := hW₂
    have hcc : c₂ = c := by
      have h1 : s₂.code? g.method = U.code? g.method := by
        rw [State.code?_eq, State.code?_eq, hW'.alike.method?]
      exact Option.some.inj (hc₂.symm.trans (h1.trans h.code))
    subst hcc
    have hlen : len₂ = len := by rw [hdg] at hd₂; cases hd₂; rfl
    subst hlen
    have hs₂ : s₂ = (({ U with heap := s₂.heap, slotsUsed := s₂.slotsUsed } : State).setVm s₂.vm).setTop { g with pc := g.pc + len₂, stack := v.toList ++ g.stack } := by
      refine e3.trans ?_
      rw [hf₂, State.calling_eq h.top, State.setFrames_setFrames, State.setTop_of_frames _ hr', hr]
      rfl
    have hsame : U.sameButNew ({ U with heap := s₂.heap, slotsUsed := s₂.slotsUsed } : State) L mc ms := by
      refine ⟨?_, q2, q3, q4, q5, q6⟩
      obtain ⟨t, ht, -⟩ := State.frames_cons hr
      show ({ U with heap := s₂.heap, slotsUsed := s₂.slotsUsed } : State) = { U.setFrames U.frames with heap := s₂.heap, slotsUsed := s₂.slotsUsed }
      rw [State.setFrames_self ht]
    subst hg
    refine Or.inl ⟨v, ⟨(({ U with heap := s₂.heap, slotsUsed := s₂.slotsUsed } : State).setVm s₂.vm), Ls ++ L, c0 + mc, s0 + ms⟩,
      ⟨X.admits, X.cas, X.clock, X.frames, X.room, X.hears, X.method, X.code, (X.here.setHeapUsed s₂.heap s₂.slotsUsed).setVm hW'.alike, X.tail, State.WarmedH.trans X.warmed hW', X.limits, X.bytes, X.same.trans (hsame.setVm s.vm)⟩,
      ⟨g, mk, s₂, L, rfl, rfl, hqc, rfl, hL, rfl, rfl⟩, ?_⟩
    show Steps p.tables e below _ ((({ U with heap := s₂.heap, slotsUsed := s₂.slotsUsed } : State).setVm s₂.vm).setTop { g with pc := g.pc + len₂, stack := v.toList ++ g.stack })
    rw [← hs₂]
    exact hsteps
  · obtain ⟨e2, q2, q3, q4, q5, q6⟩ := id hsm
    have e3 : s₂ = ({ (U.calling g mk a).setFrames s₂.frames with heap := s₂.heap, slotsUsed := s₂.slotsUsed } : State).setVm s₂.vm := by
      have : s₂ = ({ s₂ with vm := (U.calling g mk a).vm } : State).setVm s₂.vm := rfl
      rw [e2] at this
      exact this
    have hf₂ : s₂.frames = .throwing q :: .java g :: U.frames.tail := hend
    have hW' : U.WarmedH s₂.vm := hW₂
    have hs₂ : s₂ = ((({ U with heap := s₂.heap, slotsUsed := s₂.slotsUsed } : State).setVm s₂.vm).setTop g).pushFrame (.throwing q) := by
      refine e3.trans ?_
      rw [hf₂, State.calling_eq h.top, State.setFrames_setFrames, State.pushFrame, State.frames_setTop _ hr', State.setTop_of_frames _ hr', State.setFrames_setFrames, hr]
      rfl
    have hsame : U.sameButNew ({ U with heap := s₂.heap, slotsUsed := s₂.slotsUsed } : State) L mc ms := by
      refine ⟨?_, q2, q3, q4, q5, q6⟩
      obtain ⟨t, ht, -⟩ := State.frames_cons hr
      show ({ U with heap := s₂.heap, slotsUsed := s₂.slotsUsed } : State) = { U.setFrames U.frames with heap := s₂.heap, slotsUsed := s₂.slotsUsed }
      rw [State.setFrames_self ht]
    subst hg
    refine Or.inr ⟨q, ⟨(({ U with heap := s₂.heap, slotsUsed := s₂.slotsUsed } : State).setVm s₂.vm), Ls ++ L, c0 + mc, s0 + ms⟩,
      ⟨X.admits, X.cas, X.clock, X.frames, X.room, X.hears, X.method, X.code, (X.here.setHeapUsed s₂.heap s₂.slotsUsed).setVm hW'.alike, X.tail, State.WarmedH.trans X.warmed hW', X.limits, X.bytes, X.same.trans (hsame.setVm s.vm)⟩,
      ⟨g, mk, s₂, L, E, ce, rfl, rfl, hx, hce, hcv, hcl, rfl, hL, rfl, rfl⟩, ?_⟩
    show Steps p.tables e below _ (((({ U with heap := s₂.heap, slotsUsed := s₂.slotsUsed } : State).setVm s₂.vm).setTop g).pushFrame (.throwing q))
    rw [← hs₂]
    exact hsteps
end
variable {p : Program} {l : Launch} {e : Env} {R : Room} {s : State} {m : MethodId} {args : Array Value} {below : List Frame} {meth : Method} {c : Code} {T : State} {H : Heap} {locs : List Loc} {cells slots : Nat}
theorem vx_callVX (X : Stand p l e R s m args below meth c T locs cells slots) (hexec : p.tables.exec = Jvm.exec) {own C : String} {index : Nat} {y : MethodName} {bytes : ByteArray} {maxL : Nat} {ret : Option FieldType} {hh : List (Nat × Nat × Nat × Nat)}
    (hown : s.vm.findClass own = some m.cls) (hlink : (Cond.methodLink own index y).before args s = true) (hinst : (Cond.instanceMethod y).before args s = true) (hsel : (Cond.selects C y y).before args s = true)
    (hcode : (Cond.codeWith y bytes maxL ret hh).before args s = true) (hy : y.cls ≠ "java/lang/invoke/MethodHandle" ∧ y.cls ≠ "java/lang/invoke/VarHandle")
    {W9 : Nat} {Pre : Pt → Array Value → Prop} {Post : Pt → Array Value → Option Value → Pt → Prop} {PostX : Pt → Array Value → Addr → Pt → Prop} (hK : vx_Back l R p e below s args y 3 W9 Pre Post PostX)
    {b : Addr} {cellB : Cell} (hcell : T.heap[b]? = some cellB) (hobj : cellB.vm.isStatics = false) (hcls : s.vm.findClass C = some cellB.cls)
    {g : JFrame} (hg : g.method = m) (hsize : g.locals.size = c.maxLocals) {argsL rest : List Value} (hlen : ∀ sig, parseMethodDescriptor y.desc = some sig → argsL.length = sig.parameters.length)
    (hstack : g.stack = argsL.reverse ++ .ref b :: rest) (hW : 2 * g.monitorRoom + (rest.map fun v => v.category).sum ≤ W9) (hdg : decode c.code g.pc = .ok (.invokevirtual index, 3))
    (hpre : ∀ vm₁, s.WarmedH vm₁ → Pre ⟨T.setVm vm₁, locs, cells, slots⟩ (Value.ref b :: argsL).toArray) :
    (∃ (v : Option Value) (vm₁ : Vm) (B : Pt), s.WarmedH vm₁ ∧ Stand p l e R s m args below meth c B.U B.locs B.cells B.slots ∧ Post ⟨T.setVm vm₁, locs, cells, slots⟩ (Value.ref b :: argsL).toArray v B ∧
      ∀ target, Steps p.tables e below (B.U.setTop { g with pc := g.pc + 3, stack := v.toList ++ rest }) target → Steps p.tables e below (T.setTop g) target) ∨
    (∃ (q : Addr) (vm₁ : Vm) (B : Pt), s.WarmedH vm₁ ∧ Stand p l e R s m args below meth c B.U B.locs B.cells B.slots ∧ PostX ⟨T.setVm vm₁, locs, cells, slots⟩ (Value.ref b :: argsL).toArray q B ∧
      Steps p.tables e below (T.setTop g) ((B.U.setTop { g with stack := rest }).pushFrame (.throwing q))) := by
  obtain ⟨mk, methM, hnamed, hmethM, hstM, habM⟩ := Cond.instanceMethod_spec hinst
  obtain ⟨m8, methM', cM, hn8, hmethM', -, -, -, -, -, -, hsigM⟩ := Cond.codeWith_spec hcode
  cases Option.some.inj (hn8.symm.trans hnamed)
  cases hmethM.symm.trans hmethM'
  obtain ⟨c2, r2, m2, q1, q2, q3, q4, kP, hkP, hkPi⟩ := Cond.selects_spec hsel
  cases hcls.symm.trans q1
  cases (State.methodFound?_of_named hnamed hy).symm.trans q2
  cases hnamed.symm.trans q3
  have hselP : selectMethod e.platform s.vm cellB.cls mk = .method mk := by rw [Launch.admits_selectMethod X.admits]; exact q4
  obtain ⟨vm₁, X₁, hstep₁⟩ := X.invokevirtual hexec hown hlink hnamed hmethM hstM hkP hkPi hy (a := b) (cell := cellB) hcell
    (fun z h => by rw [h] at hobj; cases hobj) hselP hmethM habM hkP hkPi (g := g) hg (argsL := argsL) (rest := rest) (hlen _ hsigM) hstack hdg
  rcases hK m meth c ⟨T.setVm vm₁, locs, cells, slots⟩ { g with stack := rest } (.invokevirtual index) mk (Value.ref b :: argsL).toArray X₁ hg hsize hdg hW (X₁.named hnamed) (hpre vm₁ X₁.warmed) with ⟨v, B, X', hpost, hsteps⟩ | ⟨q, B, X', hpost, hsteps⟩
  · exact Or.inl ⟨v, vm₁, B, X₁.warmed, X', hpost, fun target h => hstep₁ _ fun acts => by rw [doInvoke_state]; exact hsteps.trans h⟩
  · exact Or.inr ⟨q, vm₁, B, X₁.warmed, X', hpost, hstep₁ _ fun acts => by rw [doInvoke_state]; exact hsteps⟩
theorem vx_callSX (X : Stand p l e R s m args below meth c T locs cells slots) (hexec : p.tables.exec = Jvm.exec) {own : String} {index : Nat} {y : MethodName} {bytes : ByteArray} {maxL : Nat} {ret : Option FieldType} {hh : List (Nat × Nat × Nat × Nat)}
    (hown : s.vm.findClass own = some m.cls) (hlink : (Cond.methodLink own index y).before args s = true) (hstat : (Cond.static y).before args s = true) (hinit : (Cond.initialized y.cls).before args s = true)
    (hcode : (Cond.codeWith y bytes maxL ret hh).before args s = true) (hy : y.cls ≠ "java/lang/invoke/MethodHandle" ∧ y.cls ≠ "java/lang/invoke/VarHandle")
    {W9 : Nat} {Pre : Pt → Array Value → Prop} {Post : Pt → Array Value → Option Value → Pt → Prop} {PostX : Pt → Array Value → Addr → Pt → Prop} (hK : vx_Back l R p e below s args y 3 W9 Pre Post PostX)
    {g : JFrame} (hg : g.method = m) (hsize : g.locals.size = c.maxLocals) {argsL rest : List Value} (hlen : ∀ sig, parseMethodDescriptor y.desc = some sig → argsL.length = sig.parameters.length)
    (hstack : g.stack = argsL.reverse ++ rest) (hW : 2 * g.monitorRoom + (rest.map fun v => v.category).sum ≤ W9) (hdg : decode c.code g.pc = .ok (.invokestatic index, 3))
    (hpre : ∀ vm₁, s.WarmedH vm₁ → Pre ⟨T.setVm vm₁, locs, cells, slots⟩ argsL.toArray) :
    (∃ (v : Option Value) (vm₁ : Vm) (B : Pt), s.WarmedH vm₁ ∧ Stand p l e R s m args below meth c B.U B.locs B.cells B.slots ∧ Post ⟨T.setVm vm₁, locs, cells, slots⟩ argsL.toArray v B ∧
      ∀ target, Steps p.tables e below (B.U.setTop { g with pc := g.pc + 3, stack := v.toList ++ rest }) target → Steps p.tables e below (T.setTop g) target) ∨
    (∃ (q : Addr) (vm₁ : Vm) (B : Pt), s.WarmedH vm₁ ∧ Stand p l e R s m args below meth c B.U B.locs B.cells B.slots ∧ PostX ⟨T.setVm vm₁, locs, cells, slots⟩ argsL.toArray q B ∧
      Steps p.tables e below (T.setTop g) ((B.U.setTop { g with stack := rest }).pushFrame (.throwing q))) := by
  obtain ⟨mk, methM, cM, hnamed, hmethM, -, -, -, -, -, -, hsigM⟩ := Cond.codeWith_spec hcode
  have hstatic : methM.isStatic = true := Cond.static_spec hnamed hmethM hstat
  obtain ⟨kP, hkP, -⟩ := className_of_methodNamed hnamed
  have hinitP : kP.init = .initialized := Cond.initialized_spec (findClass_of_methodNamed hnamed) hkP hinit
  obtain ⟨vm₁, X₁, hstep₁⟩ := X.invokestatic hexec hown hlink hnamed hmethM hstatic hkP hinitP hy (g := g) hg (argsL := argsL) (rest := rest) (hlen _ hsigM) hstack hdg
  rcases hK m meth c ⟨T.setVm vm₁, locs, cells, slots⟩ { g with stack := rest } (.invokestatic index) mk argsL.toArray X₁ hg hsize hdg hW (X₁.named hnamed) (hpre vm₁ X₁.warmed) with ⟨v, B, X', hpost, hsteps⟩ | ⟨q, B, X', hpost, hsteps⟩
  · exact Or.inl ⟨v, vm₁, B, X₁.warmed, X', hpost, fun target h => hstep₁ _ fun acts => by rw [doInvoke_state]; exact hsteps.trans h⟩
  · exact Or.inr ⟨q, vm₁, B, X₁.warmed, X', hpost, hstep₁ _ fun acts => by rw [doInvoke_state]; exact hsteps⟩
theorem vx_callVW (X : Stand p l e R s m args below meth c T locs cells slots) (hexec : p.tables.exec = Jvm.exec) {own C : String} {index : Nat} {y : MethodName} {bytes : ByteArray} {maxL : Nat} {ret : Option FieldType} {hh : List (Nat × Nat × Nat × Nat)}
    (hown : s.vm.findClass own = some m.cls) (hlink : (Cond.methodLink own index y).before args s = true) (hinst : (Cond.instanceMethod y).before args s = true) (hsel : (Cond.selects C y y).before args s = true)
    (hcode : (Cond.codeWith y bytes maxL ret hh).before args s = true) (hy : y.cls ≠ "java/lang/invoke/MethodHandle" ∧ y.cls ≠ "java/lang/invoke/VarHandle")
    {W9 : Nat} {Pre : Pt → Array Value → Prop} {Post : Pt → Array Value → Option Value → Pt → Prop} (hK : Back l R p e below s args y 3 W9 Pre Post)
    {b : Addr} {cellB : Cell} (hcell : T.heap[b]? = some cellB) (hobj : cellB.vm.isStatics = false) (hcls : s.vm.findClass C = some cellB.cls)
    {g : JFrame} (hg : g.method = m) (hsize : g.locals.size = c.maxLocals) {argsL rest : List Value} (hlen : ∀ sig, parseMethodDescriptor y.desc = some sig → argsL.length = sig.parameters.length)
    (hstack : g.stack = argsL.reverse ++ .ref b :: rest) (hW : 2 * g.monitorRoom + (rest.map fun v => v.category).sum ≤ W9) (hdg : decode c.code g.pc = .ok (.invokevirtual index, 3))
    (hpre : ∀ vm₁, s.WarmedH vm₁ → Pre ⟨T.setVm vm₁, locs, cells, slots⟩ (Value.ref b :: argsL).toArray) :
    ∃ (v : Option Value) (vm₁ : Vm) (B : Pt), s.WarmedH vm₁ ∧ Stand p l e R s m args below meth c B.U B.locs B.cells B.slots ∧ Post ⟨T.setVm vm₁, locs, cells, slots⟩ (Value.ref b :: argsL).toArray v B ∧
      ∀ target, Steps p.tables e below (B.U.setTop { g with pc := g.pc + 3, stack := v.toList ++ rest }) target → Steps p.tables e below (T.setTop g) target := by
  obtain ⟨mk, methM, hnamed, hmethM, hstM, habM⟩ := Cond.instanceMethod_spec hinst
  obtain ⟨m8, methM', cM, hn8, hmethM', -, -, -, -, -, -, hsigM⟩ := Cond.codeWith_spec hcode
  cases Option.some.inj (hn8.symm.trans hnamed)
  cases hmethM.symm.trans hmethM'
  obtain ⟨c2, r2, m2, q1, q2, q3, q4, kP, hkP, hkPi⟩ := Cond.selects_spec hsel
  cases hcls.symm.trans q1
  cases (State.methodFound?_of_named hnamed hy).symm.trans q2
  cases hnamed.symm.trans q3
  have hselP : selectMethod e.platform s.vm cellB.cls mk = .method mk := by rw [Launch.admits_selectMethod X.admits]; exact q4
  obtain ⟨vm₁, X₁, hstep₁⟩ := X.invokevirtual hexec hown hlink hnamed hmethM hstM hkP hkPi hy (a := b) (cell := cellB) hcell
    (fun z h => by rw [h] at hobj; cases hobj) hselP hmethM habM hkP hkPi (g := g) hg (argsL := argsL) (rest := rest) (hlen _ hsigM) hstack hdg
  obtain ⟨v, B, X', hpost, hsteps⟩ := hK m meth c ⟨T.setVm vm₁, locs, cells, slots⟩ { g with stack := rest } (.invokevirtual index) mk (Value.ref b :: argsL).toArray X₁ hg hsize hdg hW (X₁.named hnamed) (hpre vm₁ X₁.warmed)
  exact ⟨v, vm₁, B, X₁.warmed, X', hpost, fun target h => hstep₁ _ fun acts => by rw [doInvoke_state]; exact hsteps.trans h⟩
abbrev vx_CVW (R : Room) (s : State) (args : Array Value) (own C : String) (index : Nat) (y : MethodName) (bytes : ByteArray) (maxL : Nat) (ret : Option FieldType) (hh : List (Nat × Nat × Nat × Nat)) (ws : List Cond) (rm : Room) (mc ms n : Nat) : Prop :=
  (rm.cells = mc ∧ rm.slots = ms ∧ rm.frames + 1 ≤ R.frames ∧ 8 + (maxL + 11) + rm.locals ≤ R.locals ∧ (∀ w ∈ ws, ∀ (a' : Array Value) (U : State), s.WarmedH U.vm → w.before a' U = true) ∧ Cond.codeWith y bytes maxL ret hh ∈ ws) ∧
  (Cond.codeWith y bytes maxL ret hh).before args s = true ∧ (Cond.initialized y.cls).before args s = true ∧ (y.cls ≠ "java/lang/invoke/MethodHandle" ∧ y.cls ≠ "java/lang/invoke/VarHandle") ∧
  (∀ sig, parseMethodDescriptor y.desc = some sig → n = sig.parameters.length) ∧ (Cond.methodLink own index y).before args s = true ∧ (Cond.instanceMethod y).before args s = true ∧ (Cond.selects C y y).before args s = true
theorem vx_cwVW {own C : String} {index maxL mc ms : Nat} {y : MethodName} {bytes : ByteArray} {ret : Option FieldType} {hh : List (Nat × Nat × Nat × Nat)} {Ts ws ws' : List Cond} {rm : Room} (n : Nat) (ht : ∀ w ∈ Ts, w.before args s = true) (hT : GoodIn Ts (wsV own index C y ws)) (hw : ws = Cond.codeWith y bytes maxL ret hh :: ws') (hrc : rm.cells = mc) (hrs : rm.slots = ms)
    (hd : y.cls = C ∧ y.cls ≠ "java/lang/invoke/MethodHandle" ∧ y.cls ≠ "java/lang/invoke/VarHandle" ∧ (parseMethodDescriptor y.desc).map (fun d => d.parameters.length) = some n) (hR : rm.frames + 1 ≤ R.frames ∧ 8 + (maxL + 11) + rm.locals ≤ R.locals) :
    vx_CVW R s args own C index y bytes maxL ret hh ws rm mc ms n := by
  obtain ⟨hC, hd⟩ := hd
  subst hC
  have ok : ∀ w ∈ wsV own index y.cls y ws, w.before args s = true := fun w h => ht w (hT w h).1
  have hG : GoodIn Ts ws := fun w h => hT w (by unfold wsV; exact List.mem_append_right _ h)
  have hc : Cond.codeWith y bytes maxL ret hh ∈ ws := by rw [hw]; exact List.mem_cons_self
  refine ⟨⟨hrc, hrs, hR.1, hR.2, pay_in ht hG, hc⟩, ht _ (hG _ hc).1, ok _ (by simp [wsV]), ⟨hd.1, hd.2.1⟩, fun sig h => ?_, ok _ (by simp [wsV]), ok _ (by simp [wsV]), ok _ (by simp [wsV])⟩
  have h2 := hd.2.2
  rw [h] at h2
  exact (Option.some.inj h2).symm
theorem vx_runVW {y : MethodName} {bytes cc : ByteArray} {maxL nL mc ms n index : Nat} {ret : Option FieldType} {hh : List (Nat × Nat × Nat × Nat)} {ws : List Cond} {rm : Room} {Pc : Array Value → State → Prop} {Qc : Array Value → State → Outcome → State → Prop} {free : Addr → Prop} {Ts : List Cond} {own C : String} {b : Addr} {As rest : List Value} {g : JFrame}
    (S : CallFix p m c cc nL s args Ts own) (hM : Met l y ws rm Pc Qc mc ms free) (cw : vx_CVW R s args own C index y bytes maxL ret hh ws rm mc ms n) (hp : PreV s H C b Pc As)
    (hg : g.method = m) (hn : As.length = n) (hsize : g.locals.size = nL) (hstack : g.stack = As.reverse ++ .ref b :: rest) (hW : 2 * g.monitorRoom + (rest.map fun v => v.category).sum ≤ 8) (hdg : decode cc g.pc = .ok (.invokevirtual index, 3)) (hf : cells + mc ≤ R.cells ∧ slots + ms ≤ R.slots) :
    va_Run p l e R s m args below meth c H locs cells slots mc ms g rest (Qc (Value.ref b :: As).toArray) free := by
  obtain ⟨⟨hrc, hrs, hfr, hlo, hws, hcw⟩, hcode, hini, hy, hlen, hl, hin, hse⟩ := cw
  have hK : Back l R p e below s args y 3 8 (PreOf R mc ms Pc) (PostOf Qc mc ms free) := va_backW (hh := hh) (bytes := bytes) (maxL := maxL) (ret := ret) hM hp.1 hrc hrs hfr hlo hws hcw (fun a' U hW => word_at hW (Or.inl (by first | rfl | simp [Cond.onTables, Cond.keeps, Cond.steady])) hini)
  obtain ⟨hx, hb, hml, ho, -⟩ := S
  obtain ⟨-, ⟨cellB, hcB, hoB, hclB⟩, hPc⟩ := hp
  intro T hT X
  obtain ⟨v, vm₁, ⟨U', l2, c2, s2⟩, hW₁, X', ⟨g', mk, t, L, e1, e2, hq, h1, hL, h2, h3⟩, st⟩ := vx_callVW X hx (C := C) (hh := hh) (bytes := bytes) (maxL := maxL) (ret := ret) ho hl hin hse hcode hy hK (by rw [hT]; exact hcB) hoB hclB hg (hsize.trans hml.symm) (argsL := As) (rest := rest) (fun sig h => hn.trans (hlen sig h)) hstack hW (by rw [hb]; exact hdg)
    (fun vm₁ hW₁ => ⟨hf.1, hf.2, hPc (T.setVm vm₁) hT hW₁⟩)
  dsimp only [Pt.U, Pt.locs, Pt.cells, Pt.slots] at X' e1 e2 h1 h2 h3 st
  subst h1; subst h2; subst h3
  exact ⟨v, (T.setVm vm₁).calling g' mk (Value.ref b :: As).toArray, t, U', L, hT, X', hL, e1, e2, hq, st⟩
section
variable {y : MethodName} {bytes cc : ByteArray} {maxL nL mc ms n index : Nat} {ret : Option FieldType} {ws : List Cond} {rm : Room} {Pc : Array Value → State → Prop} {Qc : Array Value → State → Outcome → State → Prop} {XC : String → State → State → Prop} {free : Addr → Prop} {Ts : List Cond} {own C : String} {b : Addr} {As rest : List Value} {g : JFrame}
theorem vx_runVX {hh : List (Nat × Nat × Nat × Nat)} (S : CallFix p m c cc nL s args Ts own) (hM : vx_Met l y ws rm Pc Qc XC mc ms free) (cw : vx_CVW R s args own C index y bytes maxL ret hh ws rm mc ms n) (hp : PreV s H C b Pc As)
    (hg : g.method = m) (hn : As.length = n) (hsize : g.locals.size = nL) (hstack : g.stack = As.reverse ++ .ref b :: rest) (hW : 2 * g.monitorRoom + (rest.map fun v => v.category).sum ≤ 8) (hdg : decode cc g.pc = .ok (.invokevirtual index, 3)) (hf : cells + mc ≤ R.cells ∧ slots + ms ≤ R.slots) :
    vx_Run p l e R s m args below meth c H locs cells slots mc ms g rest (Qc (Value.ref b :: As).toArray) XC free := by
  obtain ⟨⟨hrc, hrs, hfr, hlo, hws, hcw⟩, hcode, hini, hy, hlen, hl, hin, hse⟩ := cw
  have hK : vx_Back l R p e below s args y 3 8 (PreOf R mc ms Pc) (PostOf Qc mc ms free) (vx_Post XC mc ms free) := vx_backW (hh := hh) (bytes := bytes) (maxL := maxL) (ret := ret) hM hp.1 hrc hrs hfr hlo hws hcw (fun a' U hW => word_at hW (Or.inl (by first | rfl | simp [Cond.onTables, Cond.keeps, Cond.steady])) hini)
  obtain ⟨hx, hb, hml, ho, -⟩ := S
  obtain ⟨-, ⟨cellB, hcB, hoB, hclB⟩, hPc⟩ := hp
  intro T hT X
  rcases vx_callVX X hx (C := C) (hh := hh) (bytes := bytes) (maxL := maxL) (ret := ret) ho hl hin hse hcode hy hK (by rw [hT]; exact hcB) hoB hclB hg (hsize.trans hml.symm) (argsL := As) (rest := rest) (fun sig h => hn.trans (hlen sig h)) hstack hW (by rw [hb]; exact hdg)
    (fun vm₁ hW₁ => ⟨hf.1, hf.2, hPc (T.setVm vm₁) hT hW₁⟩) with ⟨v, vm₁, ⟨U', l2, c2, s2⟩, hW₁, X', ⟨g', mk, t, L, e1, e2, hq, h1, hL, h2, h3⟩, st⟩ | ⟨q, vm₁, ⟨U', l2, c2, s2⟩, hW₁, X', ⟨g', mk, t, L, E, ce, e1, e2, hq, hce, hcv, hcl, h1, hL, h2, h3⟩, st⟩
  · dsimp only [Pt.U, Pt.locs, Pt.cells, Pt.slots] at X' e1 e2 h1 h2 h3 st
    subst h1; subst h2; subst h3
    exact Or.inl ⟨v, (T.setVm vm₁).calling g' mk (Value.ref b :: As).toArray, t, U', L, hT, X', hL, e1, e2, hq, st⟩
  · dsimp only [Pt.U, Pt.locs, Pt.cells, Pt.slots] at X' e1 e2 h1 h2 h3 st hcl
    subst h1; subst h2; subst h3
    exact Or.inr ⟨q, (T.setVm vm₁).calling g' mk (Value.ref b :: As).toArray, t, U', L, E, ce, hT, X', hL, e1, e2, hq, hce, hcv, vx_cls hW₁ hcl, st⟩
theorem vx_runSX {hh : List (Nat × Nat × Nat × Nat)} (S : CallFix p m c cc nL s args Ts own) (hM : vx_Met l y ws rm Pc Qc XC mc ms free) (cw : vx_CSW R s args own index y bytes maxL ret hh ws rm mc ms n) (hp : PreS s H Pc As)
    (hg : g.method = m) (hn : As.length = n) (hsize : g.locals.size = nL) (hstack : g.stack = As.reverse ++ rest) (hW : 2 * g.monitorRoom + (rest.map fun v => v.category).sum ≤ 8) (hdg : decode cc g.pc = .ok (.invokestatic index, 3)) (hf : cells + mc ≤ R.cells ∧ slots + ms ≤ R.slots) :
    vx_Run p l e R s m args below meth c H locs cells slots mc ms g rest (Qc As.toArray) XC free := by
  obtain ⟨⟨hrc, hrs, hfr, hlo, hws, hcw⟩, hcode, hini, hy, hlen, hl, hstt⟩ := cw
  have hK : vx_Back l R p e below s args y 3 8 (PreOf R mc ms Pc) (PostOf Qc mc ms free) (vx_Post XC mc ms free) := vx_backW (hh := hh) (bytes := bytes) (maxL := maxL) (ret := ret) hM hp.1 hrc hrs hfr hlo hws hcw (fun a' U hW => word_at hW (Or.inl (by first | rfl | simp [Cond.onTables, Cond.keeps, Cond.steady])) hini)
  obtain ⟨hx, hb, hml, ho, -⟩ := S
  intro T hT X
  rcases vx_callSX X hx (hh := hh) (bytes := bytes) (maxL := maxL) (ret := ret) ho hl hstt hini hcode hy hK hg (hsize.trans hml.symm) (argsL := As) (rest := rest) (fun sig h => hn.trans (hlen sig h)) hstack hW (by rw [hb]; exact hdg)
    (fun vm₁ hW₁ => ⟨hf.1, hf.2, hp.2 (T.setVm vm₁) hT hW₁⟩) with ⟨v, vm₁, ⟨U', l2, c2, s2⟩, hW₁, X', ⟨g', mk, t, L, e1, e2, hq, h1, hL, h2, h3⟩, st⟩ | ⟨q, vm₁, ⟨U', l2, c2, s2⟩, hW₁, X', ⟨g', mk, t, L, E, ce, e1, e2, hq, hce, hcv, hcl, h1, hL, h2, h3⟩, st⟩
  · dsimp only [Pt.U, Pt.locs, Pt.cells, Pt.slots] at X' e1 e2 h1 h2 h3 st
    subst h1; subst h2; subst h3
    exact Or.inl ⟨v, (T.setVm vm₁).calling g' mk As.toArray, t, U', L, hT, X', hL, e1, e2, hq, st⟩
  · dsimp only [Pt.U, Pt.locs, Pt.cells, Pt.slots] at X' e1 e2 h1 h2 h3 st hcl
    subst h1; subst h2; subst h3
    exact Or.inr ⟨q, (T.setVm vm₁).calling g' mk As.toArray, t, U', L, E, ce, hT, X', hL, e1, e2, hq, hce, hcv, vx_cls hW₁ hcl, st⟩
end
end VXH
theorem vx_ofWH {l : Launch} {y : MethodName} {ws ws' : List Cond} {rm : Room} {Pc : Array Value → State → Prop} {Qc : Array Value → State → Outcome → State → Prop} {XC : String → State → State → Prop} {mc ms : Nat} {free : Addr → Prop} {cc : ByteArray} {maxL : Nat} {ret : Option FieldType} {hh : List (Nat × Nat × Nat × Nat)}
    (hy : plainName y.cls = true) (hw : ws = Cond.codeWith y cc maxL ret hh :: ws')
    (body : ∀ p e s m args below meth c s₁, BodyLoose p l y (headSpec ws rm) cc maxL ret e s m args below meth c s₁ → c.maxLocals = maxL → Pc args s →
      W p l e (headSpec ws rm).room s m args below meth c s.heap [] 0 0 (vx_MQ below Qc XC args s mc ms free) (entryFrame m args maxL)) : vx_Met l y ws rm Pc Qc XC mc ms free := by
  refine MetFree.of_bodyS (code := cc) (maxLocals := maxL) (ret := ret) hy ?_ ?_
  · intro args s m h hn
    obtain ⟨m9, meth, c, hn9, h1, h2, h3, h4, -, h5, h6, -⟩ := Cond.codeWith_spec (atoms_spec (ws := ws) h _ (by rw [hw]; exact List.mem_cons_self))
    cases hn.symm.trans hn9
    exact ⟨meth, c, h1, h2, h3, h4, h5, h6⟩
  · intro p e s m args below meth c s₁ B hml hP _
    have hh0 : s₁.heap = s.heap := by rw [B.state]; rfl
    obtain ⟨t, a1, o, b1, b2, b3⟩ := body p e s m args below meth c s₁ B hml hP s₁ hh0 (Stand.of_body B)
    exact ⟨t, o, a1, b1, b2, b3⟩
/-! ===== END ===== -/
end
section
def RX0 : String := "BladeDesk$Bits"
def TX0 : u_T := fun k => match k with
  | _ => ("", "", "", false)
def tyX0 : Nat → FieldType := fun k => match k with
  | _ => .int
theorem nmX0 : ∀ a, a < 0 → ∀ b, b < 0 → a ≠ b → (TX0 a).2.1 ≠ (TX0 b).2.1 := by decide +kernel
theorem tyX0_ok : ∀ k, k < 0 → parseFieldDescriptor (TX0 k).2.2.1 = some (tyX0 k) := by decide +kernel
abbrev cX0_ofFloat : ByteArray := prog_2_method_2_code
def yX0_ofFloat : MethodName := ⟨RX0, "ofFloat", "(F)I"⟩
abbrev cX0_ofDouble : ByteArray := prog_2_method_3_code
def yX0_ofDouble : MethodName := ⟨RX0, "ofDouble", "(D)J"⟩
def RX1 : String := "BladeDesk$FormReader"
def TX1 : u_T := fun k => match k with
  | 0 => ("BladeDesk$FormReader", "coefficients", "[I", true)
  | 1 => ("BladeDesk$FormReader", "dimension", "I", false)
  | 2 => ("BladeDesk$FormReader", "mode", "I", false)
  | 3 => ("BladeDesk$FormReader", "negative", "Z", false)
  | 4 => ("BladeDesk$FormReader", "number", "I", false)
  | _ => ("BladeDesk$FormReader", "blade", "I", false)
def tyX1 : Nat → FieldType := fun k => match k with
  | 0 => .array .int
  | 1 => .int
  | 2 => .int
  | 3 => .boolean
  | 4 => .int
  | _ => .int
theorem nmX1 : ∀ a, a < 6 → ∀ b, b < 6 → a ≠ b → (TX1 a).2.1 ≠ (TX1 b).2.1 := by decide +kernel
theorem tyX1_ok : ∀ k, k < 6 → parseFieldDescriptor (TX1 k).2.2.1 = some (tyX1 k) := by decide +kernel
abbrev cX1_init : ByteArray := prog_3_method_1_code
def yX1_init : MethodName := ⟨RX1, "<init>", "()V"⟩
abbrev cX1_read : ByteArray := prog_3_method_2_code
def yX1_read : MethodName := ⟨RX1, "read", "([III)I"⟩
abbrev cX1_isComplete : ByteArray := prog_3_method_3_code
def yX1_isComplete : MethodName := ⟨RX1, "isComplete", "()Z"⟩
abbrev cX1_start : ByteArray := prog_3_method_4_code
def yX1_start : MethodName := ⟨RX1, "start", "(I)V"⟩
abbrev cX1_startTerm : ByteArray := prog_3_method_5_code
def yX1_startTerm : MethodName := ⟨RX1, "startTerm", "(Z)V"⟩
abbrev cX1_addTerm : ByteArray := prog_3_method_6_code
def yX1_addTerm : MethodName := ⟨RX1, "addTerm", "()V"⟩
abbrev cX1_accepts : ByteArray := prog_3_method_7_code
def yX1_accepts : MethodName := ⟨RX1, "accepts", "(I)Z"⟩
abbrev cX1_acceptsSign : ByteArray := prog_3_method_8_code
def yX1_acceptsSign : MethodName := ⟨RX1, "acceptsSign", "(Z)Z"⟩
abbrev cX1_acceptsLetter : ByteArray := prog_3_method_9_code
def yX1_acceptsLetter : MethodName := ⟨RX1, "acceptsLetter", "()Z"⟩
abbrev cX1_acceptsDigit : ByteArray := prog_3_method_10_code
def yX1_acceptsDigit : MethodName := ⟨RX1, "acceptsDigit", "(I)Z"⟩
abbrev cX1_acceptsFirstDigit : ByteArray := prog_3_method_11_code
def yX1_acceptsFirstDigit : MethodName := ⟨RX1, "acceptsFirstDigit", "(I)Z"⟩
abbrev cX1_acceptsDirection : ByteArray := prog_3_method_12_code
def yX1_acceptsDirection : MethodName := ⟨RX1, "acceptsDirection", "(I)Z"⟩
def RX2 : String := "BladeDesk$Forms"
def TX2 : u_T := fun k => match k with
  | _ => ("", "", "", false)
def tyX2 : Nat → FieldType := fun k => match k with
  | _ => .int
theorem nmX2 : ∀ a, a < 0 → ∀ b, b < 0 → a ≠ b → (TX2 a).2.1 ≠ (TX2 b).2.1 := by decide +kernel
theorem tyX2_ok : ∀ k, k < 0 → parseFieldDescriptor (TX2 k).2.2.1 = some (tyX2 k) := by decide +kernel
abbrev cX2_property : ByteArray := prog_4_method_2_code
def yX2_property : MethodName := ⟨RX2, "property", "([II)I"⟩
abbrev cX2_countNonzero : ByteArray := prog_4_method_3_code
def yX2_countNonzero : MethodName := ⟨RX2, "countNonzero", "([I)I"⟩
abbrev cX2_gradeOf : ByteArray := prog_4_method_4_code
def yX2_gradeOf : MethodName := ⟨RX2, "gradeOf", "([I)I"⟩
abbrev cX2_lowestGrade : ByteArray := prog_4_method_5_code
def yX2_lowestGrade : MethodName := ⟨RX2, "lowestGrade", "([I)I"⟩
abbrev cX2_highestGrade : ByteArray := prog_4_method_6_code
def yX2_highestGrade : MethodName := ⟨RX2, "highestGrade", "([I)I"⟩
abbrev cX2_greatestSize : ByteArray := prog_4_method_7_code
def yX2_greatestSize : MethodName := ⟨RX2, "greatestSize", "([I)I"⟩
abbrev cX2_leadOf : ByteArray := prog_4_method_8_code
def yX2_leadOf : MethodName := ⟨RX2, "leadOf", "([I)I"⟩
abbrev cX2_leadCoefficient : ByteArray := prog_4_method_9_code
def yX2_leadCoefficient : MethodName := ⟨RX2, "leadCoefficient", "([I)I"⟩
abbrev cX2_directionsOf : ByteArray := prog_4_method_10_code
def yX2_directionsOf : MethodName := ⟨RX2, "directionsOf", "([I)I"⟩
abbrev cX2_areSame : ByteArray := prog_4_method_11_code
def yX2_areSame : MethodName := ⟨RX2, "areSame", "([I[I)Z"⟩
abbrev cX2_areProportional : ByteArray := prog_4_method_12_code
def yX2_areProportional : MethodName := ⟨RX2, "areProportional", "([I[I)Z"⟩
abbrev cX2_partnerNumber : ByteArray := prog_4_method_13_code
def yX2_partnerNumber : MethodName := ⟨RX2, "partnerNumber", "([III)I"⟩
abbrev cX2_factorNumber : ByteArray := prog_4_method_14_code
def yX2_factorNumber : MethodName := ⟨RX2, "factorNumber", "([III)I"⟩
abbrev cX2_densityOf : ByteArray := prog_4_method_15_code
def yX2_densityOf : MethodName := ⟨RX2, "densityOf", "([II)F"⟩
abbrev cX2_shareOf : ByteArray := prog_4_method_16_code
def yX2_shareOf : MethodName := ⟨RX2, "shareOf", "([II)D"⟩
def RX3 : String := "BladeDesk$History"
def TX3 : u_T := fun k => match k with
  | 0 => ("BladeDesk$History", "states", "[LBladeDesk$State;", true)
  | 1 => ("BladeDesk$History", "oldest", "I", false)
  | _ => ("BladeDesk$History", "size", "I", false)
def tyX3 : Nat → FieldType := fun k => match k with
  | 0 => .array (.object "BladeDesk$State")
  | 1 => .int
  | _ => .int
theorem nmX3 : ∀ a, a < 3 → ∀ b, b < 3 → a ≠ b → (TX3 a).2.1 ≠ (TX3 b).2.1 := by decide +kernel
theorem tyX3_ok : ∀ k, k < 3 → parseFieldDescriptor (TX3 k).2.2.1 = some (tyX3 k) := by decide +kernel
abbrev cX3_init : ByteArray := prog_5_method_1_code
def yX3_init : MethodName := ⟨RX3, "<init>", "()V"⟩
abbrev cX3_save : ByteArray := prog_5_method_2_code
def yX3_save : MethodName := ⟨RX3, "save", "(LBladeDesk$State;)V"⟩
abbrev cX3_dropInto : ByteArray := prog_5_method_3_code
def yX3_dropInto : MethodName := ⟨RX3, "dropInto", "(LBladeDesk$State;)V"⟩
def RX4 : String := "BladeDesk$Kernel"
def TX4 : u_T := fun k => match k with
  | 0 => ("BladeDesk$Kernel", "vectors", "[[J", true)
  | 1 => ("BladeDesk$Kernel", "values", "[J", true)
  | _ => ("BladeDesk$Kernel", "size", "I", false)
def tyX4 : Nat → FieldType := fun k => match k with
  | 0 => .array (.array .long)
  | 1 => .array .long
  | _ => .int
theorem nmX4 : ∀ a, a < 3 → ∀ b, b < 3 → a ≠ b → (TX4 a).2.1 ≠ (TX4 b).2.1 := by decide +kernel
theorem tyX4_ok : ∀ k, k < 3 → parseFieldDescriptor (TX4 k).2.2.1 = some (tyX4 k) := by decide +kernel
abbrev cX4_init : ByteArray := prog_6_method_1_code
def yX4_init : MethodName := ⟨RX4, "<init>", "()V"⟩
abbrev cX4_find : ByteArray := prog_6_method_2_code
def yX4_find : MethodName := ⟨RX4, "find", "([II)I"⟩
abbrev cX4_number : ByteArray := prog_6_method_3_code
def yX4_number : MethodName := ⟨RX4, "number", "(II)I"⟩
abbrev cX4_startWithAll : ByteArray := prog_6_method_4_code
def yX4_startWithAll : MethodName := ⟨RX4, "startWithAll", "(I)V"⟩
abbrev cX4_cut : ByteArray := prog_6_method_5_code
def yX4_cut : MethodName := ⟨RX4, "cut", "([III)V"⟩
abbrev cX4_valueAt : ByteArray := prog_6_method_6_code
def yX4_valueAt : MethodName := ⟨RX4, "valueAt", "([II[JI)J"⟩
abbrev cX4_clearWith : ByteArray := prog_6_method_7_code
def yX4_clearWith : MethodName := ⟨RX4, "clearWith", "(III)V"⟩
abbrev cX4_removeVector : ByteArray := prog_6_method_8_code
def yX4_removeVector : MethodName := ⟨RX4, "removeVector", "(II)V"⟩
abbrev cX4_commonDivisor : ByteArray := prog_6_method_9_code
def yX4_commonDivisor : MethodName := ⟨RX4, "commonDivisor", "(JJ)J"⟩
def RX5 : String := "BladeDesk$Products"
def TX5 : u_T := fun k => match k with
  | _ => ("", "", "", false)
def tyX5 : Nat → FieldType := fun k => match k with
  | _ => .int
theorem nmX5 : ∀ a, a < 0 → ∀ b, b < 0 → a ≠ b → (TX5 a).2.1 ≠ (TX5 b).2.1 := by decide +kernel
theorem tyX5_ok : ∀ k, k < 0 → parseFieldDescriptor (TX5 k).2.2.1 = some (tyX5 k) := by decide +kernel
abbrev cX5_oddTurns : ByteArray := prog_7_method_2_code
def yX5_oddTurns : MethodName := ⟨RX5, "oddTurns", "(II)Z"⟩
abbrev cX5_signOfBlade : ByteArray := prog_7_method_3_code
def yX5_signOfBlade : MethodName := ⟨RX5, "signOfBlade", "([II)I"⟩
abbrev cX5_clear : ByteArray := prog_7_method_4_code
def yX5_clear : MethodName := ⟨RX5, "clear", "([J)V"⟩
abbrev cX5_addForms : ByteArray := prog_7_method_5_code
def yX5_addForms : MethodName := ⟨RX5, "addForms", "(LBladeDesk$State;II[J)V"⟩
abbrev cX5_multiplyForm : ByteArray := prog_7_method_6_code
def yX5_multiplyForm : MethodName := ⟨RX5, "multiplyForm", "(LBladeDesk$State;II[J)V"⟩
abbrev cX5_wedgeForms : ByteArray := prog_7_method_7_code
def yX5_wedgeForms : MethodName := ⟨RX5, "wedgeForms", "([I[II[J)V"⟩
abbrev cX5_contractForms : ByteArray := prog_7_method_8_code
def yX5_contractForms : MethodName := ⟨RX5, "contractForms", "(LBladeDesk$State;II[J)V"⟩
abbrev cX5_starForm : ByteArray := prog_7_method_9_code
def yX5_starForm : MethodName := ⟨RX5, "starForm", "(LBladeDesk$State;I[J)V"⟩
abbrev cX5_partOfForm : ByteArray := prog_7_method_10_code
def yX5_partOfForm : MethodName := ⟨RX5, "partOfForm", "(LBladeDesk$State;II[J)V"⟩
abbrev cX5_reverseForm : ByteArray := prog_7_method_11_code
def yX5_reverseForm : MethodName := ⟨RX5, "reverseForm", "(LBladeDesk$State;I[J)V"⟩
abbrev cX5_pushForm : ByteArray := prog_7_method_12_code
def yX5_pushForm : MethodName := ⟨RX5, "pushForm", "(LBladeDesk$State;I[J[J)V"⟩
abbrev cX5_pushBlade : ByteArray := prog_7_method_13_code
def yX5_pushBlade : MethodName := ⟨RX5, "pushBlade", "(LBladeDesk$State;I[J)V"⟩
abbrev cX5_wedgeWithColumn : ByteArray := prog_7_method_14_code
def yX5_wedgeWithColumn : MethodName := ⟨RX5, "wedgeWithColumn", "(LBladeDesk$State;II[J)J"⟩
abbrev cX5_determinant : ByteArray := prog_7_method_15_code
def yX5_determinant : MethodName := ⟨RX5, "determinant", "(LBladeDesk$State;[J)I"⟩
abbrev cX5_innerOfForms : ByteArray := prog_7_method_16_code
def yX5_innerOfForms : MethodName := ⟨RX5, "innerOfForms", "(LBladeDesk$State;II)J"⟩
def RX6 : String := "BladeDesk$State"
def TX6 : u_T := fun k => match k with
  | 0 => ("BladeDesk$State", "dimension", "I", false)
  | 1 => ("BladeDesk$State", "forms", "[[I", true)
  | 2 => ("BladeDesk$State", "signs", "[I", true)
  | 3 => ("BladeDesk$State", "matrix", "[[I", true)
  | _ => ("BladeDesk$State", "tallies", "[I", true)
def tyX6 : Nat → FieldType := fun k => match k with
  | 0 => .int
  | 1 => .array (.array .int)
  | 2 => .array .int
  | 3 => .array (.array .int)
  | _ => .array .int
theorem nmX6 : ∀ a, a < 5 → ∀ b, b < 5 → a ≠ b → (TX6 a).2.1 ≠ (TX6 b).2.1 := by decide +kernel
theorem tyX6_ok : ∀ k, k < 5 → parseFieldDescriptor (TX6 k).2.2.1 = some (tyX6 k) := by decide +kernel
abbrev cX6_init : ByteArray := prog_8_method_1_code
def yX6_init : MethodName := ⟨RX6, "<init>", "()V"⟩
abbrev cX6_blades : ByteArray := prog_8_method_2_code
def yX6_blades : MethodName := ⟨RX6, "blades", "()I"⟩
abbrev cX6_startWith : ByteArray := prog_8_method_3_code
def yX6_startWith : MethodName := ⟨RX6, "startWith", "(I)V"⟩
abbrev cX6_copyScene : ByteArray := prog_8_method_4_code
def yX6_copyScene : MethodName := ⟨RX6, "copyScene", "(LBladeDesk$State;)V"⟩
abbrev cX6_copyAll : ByteArray := prog_8_method_5_code
def yX6_copyAll : MethodName := ⟨RX6, "copyAll", "(LBladeDesk$State;)V"⟩
abbrev cX6_countForms : ByteArray := prog_8_method_6_code
def yX6_countForms : MethodName := ⟨RX6, "countForms", "()I"⟩
def RX7 : String := "BladeDesk"
def TX7 : u_T := fun k => match k with
  | 0 => ("BladeDesk", "state", "LBladeDesk$State;", true)
  | 1 => ("BladeDesk", "history", "LBladeDesk$History;", true)
  | 2 => ("BladeDesk", "snapshots", "[LBladeDesk$State;", true)
  | 3 => ("BladeDesk", "taken", "[Z", true)
  | 4 => ("BladeDesk", "buffer", "[I", true)
  | 5 => ("BladeDesk", "bufferLength", "I", false)
  | 6 => ("BladeDesk", "result", "[J", true)
  | 7 => ("BladeDesk", "image", "[J", true)
  | 8 => ("BladeDesk", "vector", "[I", true)
  | 9 => ("BladeDesk", "kernel", "LBladeDesk$Kernel;", true)
  | _ => ("BladeDesk", "reader", "LBladeDesk$FormReader;", true)
def tyX7 : Nat → FieldType := fun k => match k with
  | 0 => .object "BladeDesk$State"
  | 1 => .object "BladeDesk$History"
  | 2 => .array (.object "BladeDesk$State")
  | 3 => .array .boolean
  | 4 => .array .int
  | 5 => .int
  | 6 => .array .long
  | 7 => .array .long
  | 8 => .array .int
  | 9 => .object "BladeDesk$Kernel"
  | _ => .object "BladeDesk$FormReader"
theorem nmX7 : ∀ a, a < 11 → ∀ b, b < 11 → a ≠ b → (TX7 a).2.1 ≠ (TX7 b).2.1 := by decide +kernel
theorem tyX7_ok : ∀ k, k < 11 → parseFieldDescriptor (TX7 k).2.2.1 = some (tyX7 k) := by decide +kernel
abbrev cX7_init : ByteArray := prog_1_method_1_code
def yX7_init : MethodName := ⟨RX7, "<init>", "()V"⟩
abbrev cX7_begin : ByteArray := prog_1_method_2_code
def yX7_begin : MethodName := ⟨RX7, "begin", "(I)I"⟩
abbrev cX7_sign : ByteArray := prog_1_method_3_code
def yX7_sign : MethodName := ⟨RX7, "sign", "(II)I"⟩
abbrev cX7_matrix : ByteArray := prog_1_method_4_code
def yX7_matrix : MethodName := ⟨RX7, "matrix", "(III)I"⟩
abbrev cX7_set : ByteArray := prog_1_method_5_code
def yX7_set : MethodName := ⟨RX7, "set", "(III)I"⟩
abbrev cX7_sum : ByteArray := prog_1_method_6_code
def yX7_sum : MethodName := ⟨RX7, "sum", "(III)I"⟩
abbrev cX7_scale : ByteArray := prog_1_method_7_code
def yX7_scale : MethodName := ⟨RX7, "scale", "(III)I"⟩
abbrev cX7_wedge : ByteArray := prog_1_method_8_code
def yX7_wedge : MethodName := ⟨RX7, "wedge", "(III)I"⟩
abbrev cX7_contract : ByteArray := prog_1_method_9_code
def yX7_contract : MethodName := ⟨RX7, "contract", "(III)I"⟩
abbrev cX7_star : ByteArray := prog_1_method_10_code
def yX7_star : MethodName := ⟨RX7, "star", "(II)I"⟩
abbrev cX7_part : ByteArray := prog_1_method_11_code
def yX7_part : MethodName := ⟨RX7, "part", "(III)I"⟩
abbrev cX7_reverse : ByteArray := prog_1_method_12_code
def yX7_reverse : MethodName := ⟨RX7, "reverse", "(II)I"⟩
abbrev cX7_push : ByteArray := prog_1_method_13_code
def yX7_push : MethodName := ⟨RX7, "push", "(II)I"⟩
abbrev cX7_append : ByteArray := prog_1_method_14_code
def yX7_append : MethodName := ⟨RX7, "append", "(I)I"⟩
abbrev cX7_clearBuffer : ByteArray := prog_1_method_15_code
def yX7_clearBuffer : MethodName := ⟨RX7, "clearBuffer", "()I"⟩
abbrev cX7_firstError : ByteArray := prog_1_method_16_code
def yX7_firstError : MethodName := ⟨RX7, "firstError", "()I"⟩
abbrev cX7_put : ByteArray := prog_1_method_17_code
def yX7_put : MethodName := ⟨RX7, "put", "(I)I"⟩
abbrev cX7_take : ByteArray := prog_1_method_18_code
def yX7_take : MethodName := ⟨RX7, "take", "(I)I"⟩
abbrev cX7_restore : ByteArray := prog_1_method_19_code
def yX7_restore : MethodName := ⟨RX7, "restore", "(I)I"⟩
abbrev cX7_undo : ByteArray := prog_1_method_20_code
def yX7_undo : MethodName := ⟨RX7, "undo", "()I"⟩
abbrev cX7_coefficient : ByteArray := prog_1_method_21_code
def yX7_coefficient : MethodName := ⟨RX7, "coefficient", "(II)I"⟩
abbrev cX7_form : ByteArray := prog_1_method_22_code
def yX7_form : MethodName := ⟨RX7, "form", "(II)I"⟩
abbrev cX7_inner : ByteArray := prog_1_method_23_code
def yX7_inner : MethodName := ⟨RX7, "inner", "(II)J"⟩
abbrev cX7_decomposable : ByteArray := prog_1_method_24_code
def yX7_decomposable : MethodName := ⟨RX7, "decomposable", "(II)I"⟩
abbrev cX7_factor : ByteArray := prog_1_method_25_code
def yX7_factor : MethodName := ⟨RX7, "factor", "(III)I"⟩
abbrev cX7_annihilator : ByteArray := prog_1_method_26_code
def yX7_annihilator : MethodName := ⟨RX7, "annihilator", "(I)I"⟩
abbrev cX7_basis : ByteArray := prog_1_method_27_code
def yX7_basis : MethodName := ⟨RX7, "basis", "(III)I"⟩
abbrev cX7_refused : ByteArray := prog_1_method_28_code
def yX7_refused : MethodName := ⟨RX7, "refused", "(III)I"⟩
abbrev cX7_compare : ByteArray := prog_1_method_29_code
def yX7_compare : MethodName := ⟨RX7, "compare", "(II)I"⟩
abbrev cX7_count : ByteArray := prog_1_method_30_code
def yX7_count : MethodName := ⟨RX7, "count", "(I)I"⟩
abbrev cX7_matrixAt : ByteArray := prog_1_method_31_code
def yX7_matrixAt : MethodName := ⟨RX7, "matrixAt", "(II)I"⟩
abbrev cX7_density : ByteArray := prog_1_method_32_code
def yX7_density : MethodName := ⟨RX7, "density", "(I)F"⟩
abbrev cX7_share : ByteArray := prog_1_method_33_code
def yX7_share : MethodName := ⟨RX7, "share", "(II)D"⟩
abbrev cX7_digest : ByteArray := prog_1_method_34_code
def yX7_digest : MethodName := ⟨RX7, "digest", "()J"⟩
abbrev cX7_requireSlot : ByteArray := prog_1_method_35_code
def yX7_requireSlot : MethodName := ⟨RX7, "requireSlot", "(I)V"⟩
abbrev cX7_requireSlots : ByteArray := prog_1_method_36_code
def yX7_requireSlots : MethodName := ⟨RX7, "requireSlots", "(III)V"⟩
abbrev cX7_requireBlade : ByteArray := prog_1_method_37_code
def yX7_requireBlade : MethodName := ⟨RX7, "requireBlade", "(I)V"⟩
abbrev cX7_requireDirection : ByteArray := prog_1_method_38_code
def yX7_requireDirection : MethodName := ⟨RX7, "requireDirection", "(I)V"⟩
abbrev cX7_requireSnapshot : ByteArray := prog_1_method_39_code
def yX7_requireSnapshot : MethodName := ⟨RX7, "requireSnapshot", "(I)V"⟩
abbrev cX7_requireGrade : ByteArray := prog_1_method_40_code
def yX7_requireGrade : MethodName := ⟨RX7, "requireGrade", "(I)V"⟩
abbrev cX7_requirePlace : ByteArray := prog_1_method_41_code
def yX7_requirePlace : MethodName := ⟨RX7, "requirePlace", "(I)V"⟩
abbrev cX7_requireSize : ByteArray := prog_1_method_42_code
def yX7_requireSize : MethodName := ⟨RX7, "requireSize", "(II)V"⟩
abbrev cX7_firstTooLarge : ByteArray := prog_1_method_43_code
def yX7_firstTooLarge : MethodName := ⟨RX7, "firstTooLarge", "()I"⟩
abbrev cX7_requireFits : ByteArray := prog_1_method_44_code
def yX7_requireFits : MethodName := ⟨RX7, "requireFits", "()V"⟩
abbrev cX7_resultIsZero : ByteArray := prog_1_method_45_code
def yX7_resultIsZero : MethodName := ⟨RX7, "resultIsZero", "()Z"⟩
abbrev cX7_storeResult : ByteArray := prog_1_method_46_code
def yX7_storeResult : MethodName := ⟨RX7, "storeResult", "(II)I"⟩
abbrev cX7_decomposableAsTold : ByteArray := prog_1_method_47_code
def yX7_decomposableAsTold : MethodName := ⟨RX7, "decomposableAsTold", "(I)I"⟩
abbrev cX7_wedgeWithPartnerIsZero : ByteArray := prog_1_method_48_code
def yX7_wedgeWithPartnerIsZero : MethodName := ⟨RX7, "wedgeWithPartnerIsZero", "([II)Z"⟩
abbrev cX7_decomposableByAnnihilator : ByteArray := prog_1_method_49_code
def yX7_decomposableByAnnihilator : MethodName := ⟨RX7, "decomposableByAnnihilator", "(I)I"⟩
abbrev cX7_countFactors : ByteArray := prog_1_method_50_code
def yX7_countFactors : MethodName := ⟨RX7, "countFactors", "(I)I"⟩
abbrev cX7_signOrZero : ByteArray := prog_1_method_51_code
def yX7_signOrZero : MethodName := ⟨RX7, "signOrZero", "(I)I"⟩
abbrev cX7_countTaken : ByteArray := prog_1_method_52_code
def yX7_countTaken : MethodName := ⟨RX7, "countTaken", "()I"⟩
abbrev cX7_hashCounts : ByteArray := prog_1_method_53_code
def yX7_hashCounts : MethodName := ⟨RX7, "hashCounts", "(J)J"⟩
abbrev cX7_hashMatrix : ByteArray := prog_1_method_54_code
def yX7_hashMatrix : MethodName := ⟨RX7, "hashMatrix", "(J)J"⟩
abbrev cX7_hashSlot : ByteArray := prog_1_method_55_code
def yX7_hashSlot : MethodName := ⟨RX7, "hashSlot", "(JI)J"⟩
abbrev cX7_hashAnnihilator : ByteArray := prog_1_method_56_code
def yX7_hashAnnihilator : MethodName := ⟨RX7, "hashAnnihilator", "(J[I)J"⟩
abbrev cX7_hashFactors : ByteArray := prog_1_method_57_code
def yX7_hashFactors : MethodName := ⟨RX7, "hashFactors", "(J[I)J"⟩
def RX8 : String := "BladeDeskModel"
def TX8 : u_T := fun k => match k with
  | 0 => ("BladeDeskModel", "z", "[I", true)
  | 1 => ("BladeDeskModel", "rows", "[I", true)
  | 2 => ("BladeDeskModel", "savedMany", "I", false)
  | 3 => ("BladeDeskModel", "shots", "[I", true)
  | 4 => ("BladeDeskModel", "isTaken", "[I", true)
  | 5 => ("BladeDeskModel", "buffer", "[I", true)
  | 6 => ("BladeDeskModel", "bufferMany", "I", false)
  | 7 => ("BladeDeskModel", "thrown", "I", false)
  | 8 => ("BladeDeskModel", "first", "[J", true)
  | 9 => ("BladeDeskModel", "second", "[J", true)
  | 10 => ("BladeDeskModel", "result", "[J", true)
  | 11 => ("BladeDeskModel", "grown", "[J", true)
  | 12 => ("BladeDeskModel", "errorAt", "I", false)
  | 13 => ("BladeDeskModel", "isWhole", "Z", false)
  | 14 => ("BladeDeskModel", "figures", "I", false)
  | 15 => ("BladeDeskModel", "number", "I", false)
  | 16 => ("BladeDeskModel", "blade", "I", false)
  | 17 => ("BladeDeskModel", "lastDigit", "I", false)
  | 18 => ("BladeDeskModel", "isMinus", "I", false)
  | 19 => ("BladeDeskModel", "lines", "[J", true)
  | 20 => ("BladeDeskModel", "pivotOf", "[I", true)
  | 21 => ("BladeDeskModel", "pivots", "I", false)
  | 22 => ("BladeDeskModel", "pivot", "J", false)
  | _ => ("BladeDeskModel", "h", "J", false)
def tyX8 : Nat → FieldType := fun k => match k with
  | 0 => .array .int
  | 1 => .array .int
  | 2 => .int
  | 3 => .array .int
  | 4 => .array .int
  | 5 => .array .int
  | 6 => .int
  | 7 => .int
  | 8 => .array .long
  | 9 => .array .long
  | 10 => .array .long
  | 11 => .array .long
  | 12 => .int
  | 13 => .boolean
  | 14 => .int
  | 15 => .int
  | 16 => .int
  | 17 => .int
  | 18 => .int
  | 19 => .array .long
  | 20 => .array .int
  | 21 => .int
  | 22 => .long
  | _ => .long
theorem nmX8 : ∀ a, a < 24 → ∀ b, b < 24 → a ≠ b → (TX8 a).2.1 ≠ (TX8 b).2.1 := by decide +kernel
theorem tyX8_ok : ∀ k, k < 24 → parseFieldDescriptor (TX8 k).2.2.1 = some (tyX8 k) := by decide +kernel
abbrev cX8_init : ByteArray := prog_10_method_1_code
def yX8_init : MethodName := ⟨RX8, "<init>", "()V"⟩
abbrev cX8_thrown : ByteArray := prog_10_method_2_code
def yX8_thrown : MethodName := ⟨RX8, "thrown", "()I"⟩
abbrev cX8_fails : ByteArray := prog_10_method_3_code
def yX8_fails : MethodName := ⟨RX8, "fails", "(I)I"⟩
abbrev cX8_in : ByteArray := prog_10_method_4_code
def yX8_in : MethodName := ⟨RX8, "in", "(III)Z"⟩
abbrev cX8_layPlain : ByteArray := prog_10_method_5_code
def yX8_layPlain : MethodName := ⟨RX8, "layPlain", "()V"⟩
abbrev cX8_save : ByteArray := prog_10_method_6_code
def yX8_save : MethodName := ⟨RX8, "save", "()V"⟩
abbrev cX8_blades : ByteArray := prog_10_method_7_code
def yX8_blades : MethodName := ⟨RX8, "blades", "()I"⟩
abbrev cX8_isSlot : ByteArray := prog_10_method_8_code
def yX8_isSlot : MethodName := ⟨RX8, "isSlot", "(I)Z"⟩
abbrev cX8_isDirection : ByteArray := prog_10_method_9_code
def yX8_isDirection : MethodName := ⟨RX8, "isDirection", "(I)Z"⟩
abbrev cX8_isBlade : ByteArray := prog_10_method_10_code
def yX8_isBlade : MethodName := ⟨RX8, "isBlade", "(I)Z"⟩
abbrev cX8_at : ByteArray := prog_10_method_11_code
def yX8_at : MethodName := ⟨RX8, "at", "(II)I"⟩
abbrev cX8_grade : ByteArray := prog_10_method_12_code
def yX8_grade : MethodName := ⟨RX8, "grade", "(I)I"⟩
abbrev cX8_turns : ByteArray := prog_10_method_13_code
def yX8_turns : MethodName := ⟨RX8, "turns", "(II)I"⟩
abbrev cX8_way : ByteArray := prog_10_method_14_code
def yX8_way : MethodName := ⟨RX8, "way", "(II)I"⟩
abbrev cX8_signOf : ByteArray := prog_10_method_15_code
def yX8_signOf : MethodName := ⟨RX8, "signOf", "(I)I"⟩
abbrev cX8_begin : ByteArray := prog_10_method_16_code
def yX8_begin : MethodName := ⟨RX8, "begin", "(I)I"⟩
abbrev cX8_sign : ByteArray := prog_10_method_17_code
def yX8_sign : MethodName := ⟨RX8, "sign", "(II)I"⟩
abbrev cX8_matrix : ByteArray := prog_10_method_18_code
def yX8_matrix : MethodName := ⟨RX8, "matrix", "(III)I"⟩
abbrev cX8_set : ByteArray := prog_10_method_19_code
def yX8_set : MethodName := ⟨RX8, "set", "(III)I"⟩
abbrev cX8_laySlots : ByteArray := prog_10_method_20_code
def yX8_laySlots : MethodName := ⟨RX8, "laySlots", "(II)V"⟩
abbrev cX8_layWedge : ByteArray := prog_10_method_21_code
def yX8_layWedge : MethodName := ⟨RX8, "layWedge", "()V"⟩
abbrev cX8_layContraction : ByteArray := prog_10_method_22_code
def yX8_layContraction : MethodName := ⟨RX8, "layContraction", "()V"⟩
abbrev cX8_growBy : ByteArray := prog_10_method_23_code
def yX8_growBy : MethodName := ⟨RX8, "growBy", "(I)V"⟩
abbrev cX8_layGrown : ByteArray := prog_10_method_24_code
def yX8_layGrown : MethodName := ⟨RX8, "layGrown", "(I)V"⟩
abbrev cX8_layPush : ByteArray := prog_10_method_25_code
def yX8_layPush : MethodName := ⟨RX8, "layPush", "()V"⟩
abbrev cX8_layBy : ByteArray := prog_10_method_26_code
def yX8_layBy : MethodName := ⟨RX8, "layBy", "(III)V"⟩
abbrev cX8_beyond : ByteArray := prog_10_method_27_code
def yX8_beyond : MethodName := ⟨RX8, "beyond", "()I"⟩
abbrev cX8_many : ByteArray := prog_10_method_28_code
def yX8_many : MethodName := ⟨RX8, "many", "(I)I"⟩
abbrev cX8_keep : ByteArray := prog_10_method_29_code
def yX8_keep : MethodName := ⟨RX8, "keep", "(II)I"⟩
abbrev cX8_keepOr : ByteArray := prog_10_method_30_code
def yX8_keepOr : MethodName := ⟨RX8, "keepOr", "(III)I"⟩
abbrev cX8_sum : ByteArray := prog_10_method_31_code
def yX8_sum : MethodName := ⟨RX8, "sum", "(III)I"⟩
abbrev cX8_scale : ByteArray := prog_10_method_32_code
def yX8_scale : MethodName := ⟨RX8, "scale", "(III)I"⟩
abbrev cX8_wedge : ByteArray := prog_10_method_33_code
def yX8_wedge : MethodName := ⟨RX8, "wedge", "(III)I"⟩
abbrev cX8_contract : ByteArray := prog_10_method_34_code
def yX8_contract : MethodName := ⟨RX8, "contract", "(III)I"⟩
abbrev cX8_star : ByteArray := prog_10_method_35_code
def yX8_star : MethodName := ⟨RX8, "star", "(II)I"⟩
abbrev cX8_part : ByteArray := prog_10_method_36_code
def yX8_part : MethodName := ⟨RX8, "part", "(III)I"⟩
abbrev cX8_reverse : ByteArray := prog_10_method_37_code
def yX8_reverse : MethodName := ⟨RX8, "reverse", "(II)I"⟩
abbrev cX8_push : ByteArray := prog_10_method_38_code
def yX8_push : MethodName := ⟨RX8, "push", "(II)I"⟩
abbrev cX8_append : ByteArray := prog_10_method_39_code
def yX8_append : MethodName := ⟨RX8, "append", "(I)I"⟩
abbrev cX8_clearBuffer : ByteArray := prog_10_method_40_code
def yX8_clearBuffer : MethodName := ⟨RX8, "clearBuffer", "()I"⟩
abbrev cX8_addTerm : ByteArray := prog_10_method_41_code
def yX8_addTerm : MethodName := ⟨RX8, "addTerm", "()V"⟩
abbrev cX8_beginTerm : ByteArray := prog_10_method_42_code
def yX8_beginTerm : MethodName := ⟨RX8, "beginTerm", "(I)I"⟩
abbrev cX8_endTerm : ByteArray := prog_10_method_43_code
def yX8_endTerm : MethodName := ⟨RX8, "endTerm", "(I)I"⟩
abbrev cX8_nextState : ByteArray := prog_10_method_44_code
def yX8_nextState : MethodName := ⟨RX8, "nextState", "(II)I"⟩
abbrev cX8_read : ByteArray := prog_10_method_45_code
def yX8_read : MethodName := ⟨RX8, "read", "()V"⟩
abbrev cX8_firstError : ByteArray := prog_10_method_46_code
def yX8_firstError : MethodName := ⟨RX8, "firstError", "()I"⟩
abbrev cX8_put : ByteArray := prog_10_method_47_code
def yX8_put : MethodName := ⟨RX8, "put", "(I)I"⟩
abbrev cX8_forms : ByteArray := prog_10_method_48_code
def yX8_forms : MethodName := ⟨RX8, "forms", "()I"⟩
abbrev cX8_kept : ByteArray := prog_10_method_49_code
def yX8_kept : MethodName := ⟨RX8, "kept", "(I)I"⟩
abbrev cX8_take : ByteArray := prog_10_method_50_code
def yX8_take : MethodName := ⟨RX8, "take", "(I)I"⟩
abbrev cX8_restore : ByteArray := prog_10_method_51_code
def yX8_restore : MethodName := ⟨RX8, "restore", "(I)I"⟩
abbrev cX8_undo : ByteArray := prog_10_method_52_code
def yX8_undo : MethodName := ⟨RX8, "undo", "()I"⟩
abbrev cX8_coefficient : ByteArray := prog_10_method_53_code
def yX8_coefficient : MethodName := ⟨RX8, "coefficient", "(II)I"⟩
abbrev cX8_lowest : ByteArray := prog_10_method_54_code
def yX8_lowest : MethodName := ⟨RX8, "lowest", "(I)I"⟩
abbrev cX8_highest : ByteArray := prog_10_method_55_code
def yX8_highest : MethodName := ⟨RX8, "highest", "(I)I"⟩
abbrev cX8_gradeOf : ByteArray := prog_10_method_56_code
def yX8_gradeOf : MethodName := ⟨RX8, "gradeOf", "(I)I"⟩
abbrev cX8_greatest : ByteArray := prog_10_method_57_code
def yX8_greatest : MethodName := ⟨RX8, "greatest", "(I)I"⟩
abbrev cX8_lead : ByteArray := prog_10_method_58_code
def yX8_lead : MethodName := ⟨RX8, "lead", "(I)I"⟩
abbrev cX8_directions : ByteArray := prog_10_method_59_code
def yX8_directions : MethodName := ⟨RX8, "directions", "(I)I"⟩
abbrev cX8_formOf : ByteArray := prog_10_method_60_code
def yX8_formOf : MethodName := ⟨RX8, "formOf", "(II)I"⟩
abbrev cX8_form : ByteArray := prog_10_method_61_code
def yX8_form : MethodName := ⟨RX8, "form", "(II)I"⟩
abbrev cX8_innerOf : ByteArray := prog_10_method_62_code
def yX8_innerOf : MethodName := ⟨RX8, "innerOf", "(II)J"⟩
abbrev cX8_inner : ByteArray := prog_10_method_63_code
def yX8_inner : MethodName := ⟨RX8, "inner", "(II)J"⟩
abbrev cX8_vector : ByteArray := prog_10_method_64_code
def yX8_vector : MethodName := ⟨RX8, "vector", "(III)J"⟩
abbrev cX8_isResultEmpty : ByteArray := prog_10_method_65_code
def yX8_isResultEmpty : MethodName := ⟨RX8, "isResultEmpty", "()Z"⟩
abbrev cX8_isPure : ByteArray := prog_10_method_66_code
def yX8_isPure : MethodName := ⟨RX8, "isPure", "(II)Z"⟩
abbrev cX8_layLines : ByteArray := prog_10_method_67_code
def yX8_layLines : MethodName := ⟨RX8, "layLines", "(I)V"⟩
abbrev cX8_exchange : ByteArray := prog_10_method_68_code
def yX8_exchange : MethodName := ⟨RX8, "exchange", "(II)V"⟩
abbrev cX8_clearColumn : ByteArray := prog_10_method_69_code
def yX8_clearColumn : MethodName := ⟨RX8, "clearColumn", "(IJ)V"⟩
abbrev cX8_solve : ByteArray := prog_10_method_70_code
def yX8_solve : MethodName := ⟨RX8, "solve", "(I)V"⟩
abbrev cX8_isAnnihilatorTold : ByteArray := prog_10_method_71_code
def yX8_isAnnihilatorTold : MethodName := ⟨RX8, "isAnnihilatorTold", "(I)Z"⟩
abbrev cX8_annihilatorOf : ByteArray := prog_10_method_72_code
def yX8_annihilatorOf : MethodName := ⟨RX8, "annihilatorOf", "(I)I"⟩
abbrev cX8_divisor : ByteArray := prog_10_method_73_code
def yX8_divisor : MethodName := ⟨RX8, "divisor", "(JJ)J"⟩
abbrev cX8_headOf : ByteArray := prog_10_method_74_code
def yX8_headOf : MethodName := ⟨RX8, "headOf", "(I)I"⟩
abbrev cX8_rawOf : ByteArray := prog_10_method_75_code
def yX8_rawOf : MethodName := ⟨RX8, "rawOf", "(II)J"⟩
abbrev cX8_basisOf : ByteArray := prog_10_method_76_code
def yX8_basisOf : MethodName := ⟨RX8, "basisOf", "(II)I"⟩
abbrev cX8_decomposableOf : ByteArray := prog_10_method_77_code
def yX8_decomposableOf : MethodName := ⟨RX8, "decomposableOf", "(II)I"⟩
abbrev cX8_decomposable : ByteArray := prog_10_method_78_code
def yX8_decomposable : MethodName := ⟨RX8, "decomposable", "(II)I"⟩
abbrev cX8_factors : ByteArray := prog_10_method_79_code
def yX8_factors : MethodName := ⟨RX8, "factors", "(I)I"⟩
abbrev cX8_factorOf : ByteArray := prog_10_method_80_code
def yX8_factorOf : MethodName := ⟨RX8, "factorOf", "(III)I"⟩
abbrev cX8_factor : ByteArray := prog_10_method_81_code
def yX8_factor : MethodName := ⟨RX8, "factor", "(III)I"⟩
abbrev cX8_annihilator : ByteArray := prog_10_method_82_code
def yX8_annihilator : MethodName := ⟨RX8, "annihilator", "(I)I"⟩
abbrev cX8_basis : ByteArray := prog_10_method_83_code
def yX8_basis : MethodName := ⟨RX8, "basis", "(III)I"⟩
abbrev cX8_refusedOf : ByteArray := prog_10_method_84_code
def yX8_refusedOf : MethodName := ⟨RX8, "refusedOf", "(III)I"⟩
abbrev cX8_refused : ByteArray := prog_10_method_85_code
def yX8_refused : MethodName := ⟨RX8, "refused", "(III)I"⟩
abbrev cX8_compareOf : ByteArray := prog_10_method_86_code
def yX8_compareOf : MethodName := ⟨RX8, "compareOf", "(II)I"⟩
abbrev cX8_compare : ByteArray := prog_10_method_87_code
def yX8_compare : MethodName := ⟨RX8, "compare", "(II)I"⟩
abbrev cX8_counted : ByteArray := prog_10_method_88_code
def yX8_counted : MethodName := ⟨RX8, "counted", "(I)I"⟩
abbrev cX8_count : ByteArray := prog_10_method_89_code
def yX8_count : MethodName := ⟨RX8, "count", "(I)I"⟩
abbrev cX8_matrixAt : ByteArray := prog_10_method_90_code
def yX8_matrixAt : MethodName := ⟨RX8, "matrixAt", "(II)I"⟩
abbrev cX8_densityOf : ByteArray := prog_10_method_91_code
def yX8_densityOf : MethodName := ⟨RX8, "densityOf", "(I)F"⟩
abbrev cX8_density : ByteArray := prog_10_method_92_code
def yX8_density : MethodName := ⟨RX8, "density", "(I)F"⟩
abbrev cX8_shareOf : ByteArray := prog_10_method_93_code
def yX8_shareOf : MethodName := ⟨RX8, "shareOf", "(II)D"⟩
abbrev cX8_share : ByteArray := prog_10_method_94_code
def yX8_share : MethodName := ⟨RX8, "share", "(II)D"⟩
abbrev cX8_mix : ByteArray := prog_10_method_95_code
def yX8_mix : MethodName := ⟨RX8, "mix", "(J)V"⟩
abbrev cX8_mixSlot : ByteArray := prog_10_method_96_code
def yX8_mixSlot : MethodName := ⟨RX8, "mixSlot", "(I)V"⟩
abbrev cX8_digest : ByteArray := prog_10_method_97_code
def yX8_digest : MethodName := ⟨RX8, "digest", "()J"⟩
def RJxe99ae : String := "java/lang/Double"
def TJxe99ae : u_T := fun k => match k with
  | _ => ("", "", "", false)
def tyJxe99ae : Nat → FieldType := fun k => match k with
  | _ => .int
theorem nmJxe99ae : ∀ a, a < 0 → ∀ b, b < 0 → a ≠ b → (TJxe99ae a).2.1 ≠ (TJxe99ae b).2.1 := by decide +kernel
theorem tyJxe99ae_ok : ∀ k, k < 0 → parseFieldDescriptor (TJxe99ae k).2.2.1 = some (tyJxe99ae k) := by decide +kernel
abbrev cJxe99ae_isNaN_b9ae7 : ByteArray := prog_11_method_6_code
def yJxe99ae_isNaN_b9ae7 : MethodName := ⟨RJxe99ae, "isNaN", "(D)Z"⟩
abbrev cJxe99ae_doubleToLongBits_ccdee : ByteArray := prog_11_method_23_code
def yJxe99ae_doubleToLongBits_ccdee : MethodName := ⟨RJxe99ae, "doubleToLongBits", "(D)J"⟩
def RJxf58ca : String := "java/lang/Float"
def TJxf58ca : u_T := fun k => match k with
  | _ => ("", "", "", false)
def tyJxf58ca : Nat → FieldType := fun k => match k with
  | _ => .int
theorem nmJxf58ca : ∀ a, a < 0 → ∀ b, b < 0 → a ≠ b → (TJxf58ca a).2.1 ≠ (TJxf58ca b).2.1 := by decide +kernel
theorem tyJxf58ca_ok : ∀ k, k < 0 → parseFieldDescriptor (TJxf58ca k).2.2.1 = some (tyJxf58ca k) := by decide +kernel
abbrev cJxf58ca_isNaN_12338 : ByteArray := prog_13_method_6_code
def yJxf58ca_isNaN_12338 : MethodName := ⟨RJxf58ca, "isNaN", "(F)Z"⟩
abbrev cJxf58ca_floatToIntBits_5c35a : ByteArray := prog_13_method_24_code
def yJxf58ca_floatToIntBits_5c35a : MethodName := ⟨RJxf58ca, "floatToIntBits", "(F)I"⟩
def RJ6 : String := "java/lang/Integer"
def TJ6 : u_T := fun k => match k with
  | _ => ("", "", "", false)
def tyJ6 : Nat → FieldType := fun k => match k with
  | _ => .int
theorem nmJ6 : ∀ a, a < 0 → ∀ b, b < 0 → a ≠ b → (TJ6 a).2.1 ≠ (TJ6 b).2.1 := by decide +kernel
theorem tyJ6_ok : ∀ k, k < 0 → parseFieldDescriptor (TJ6 k).2.2.1 = some (tyJ6 k) := by decide +kernel
abbrev cJ6_bitCount_0f7a4 : ByteArray := prog_17_method_49_code
def yJ6_bitCount_0f7a4 : MethodName := ⟨RJ6, "bitCount", "(I)I"⟩
def RJ9 : String := "java/lang/Math"
def TJ9 : u_T := fun k => match k with
  | _ => ("", "", "", false)
def tyJ9 : Nat → FieldType := fun k => match k with
  | _ => .int
theorem nmJ9 : ∀ a, a < 0 → ∀ b, b < 0 → a ≠ b → (TJ9 a).2.1 ≠ (TJ9 b).2.1 := by decide +kernel
theorem tyJ9_ok : ∀ k, k < 0 → parseFieldDescriptor (TJ9 k).2.2.1 = some (tyJ9 k) := by decide +kernel
abbrev cJ9_abs_0f7a4 : ByteArray := prog_18_method_59_code
def yJ9_abs_0f7a4 : MethodName := ⟨RJ9, "abs", "(I)I"⟩
abbrev cJ9_abs_067f4 : ByteArray := prog_18_method_61_code
def yJ9_abs_067f4 : MethodName := ⟨RJ9, "abs", "(J)J"⟩
abbrev cJ9_max_7cf53 : ByteArray := prog_18_method_65_code
def yJ9_max_7cf53 : MethodName := ⟨RJ9, "max", "(II)I"⟩
def RJ0 : String := "java/lang/String"
def TJ0 : u_T := fun k => match k with
  | _ => ("", "", "", false)
def tyJ0 : Nat → FieldType := fun k => match k with
  | _ => .int
theorem nmJ0 : ∀ a, a < 0 → ∀ b, b < 0 → a ≠ b → (TJ0 a).2.1 ≠ (TJ0 b).2.1 := by decide +kernel
theorem tyJ0_ok : ∀ k, k < 0 → parseFieldDescriptor (TJ0 k).2.2.1 = some (tyJ0 k) := by decide +kernel
def RJ10 : String := "java/lang/System"
def TJ10 : u_T := fun k => match k with
  | _ => ("", "", "", false)
def tyJ10 : Nat → FieldType := fun k => match k with
  | _ => .int
theorem nmJ10 : ∀ a, a < 0 → ∀ b, b < 0 → a ≠ b → (TJ10 a).2.1 ≠ (TJ10 b).2.1 := by decide +kernel
theorem tyJ10_ok : ∀ k, k < 0 → parseFieldDescriptor (TJ10 k).2.2.1 = some (tyJ10 k) := by decide +kernel
def RL : String := "BladeDeskLaw"
abbrev cL_begin : ByteArray := method_3_code
def yL_begin : MethodName := ⟨RL, "begin", "(LBladeDesk;I[J)I"⟩
abbrev cL_sign : ByteArray := method_4_code
def yL_sign : MethodName := ⟨RL, "sign", "(LBladeDesk;II[J)I"⟩
abbrev cL_matrix : ByteArray := method_5_code
def yL_matrix : MethodName := ⟨RL, "matrix", "(LBladeDesk;III[J)I"⟩
abbrev cL_set : ByteArray := method_6_code
def yL_set : MethodName := ⟨RL, "set", "(LBladeDesk;III[J)I"⟩
abbrev cL_sum : ByteArray := method_7_code
def yL_sum : MethodName := ⟨RL, "sum", "(LBladeDesk;III[J)I"⟩
abbrev cL_scale : ByteArray := method_8_code
def yL_scale : MethodName := ⟨RL, "scale", "(LBladeDesk;III[J)I"⟩
abbrev cL_wedge : ByteArray := method_9_code
def yL_wedge : MethodName := ⟨RL, "wedge", "(LBladeDesk;III[J)I"⟩
abbrev cL_contract : ByteArray := method_10_code
def yL_contract : MethodName := ⟨RL, "contract", "(LBladeDesk;III[J)I"⟩
abbrev cL_star : ByteArray := method_11_code
def yL_star : MethodName := ⟨RL, "star", "(LBladeDesk;II[J)I"⟩
abbrev cL_part : ByteArray := method_12_code
def yL_part : MethodName := ⟨RL, "part", "(LBladeDesk;III[J)I"⟩
abbrev cL_reverse : ByteArray := method_13_code
def yL_reverse : MethodName := ⟨RL, "reverse", "(LBladeDesk;II[J)I"⟩
abbrev cL_push : ByteArray := method_14_code
def yL_push : MethodName := ⟨RL, "push", "(LBladeDesk;II[J)I"⟩
abbrev cL_append : ByteArray := method_15_code
def yL_append : MethodName := ⟨RL, "append", "(LBladeDesk;I[J)I"⟩
abbrev cL_put : ByteArray := method_16_code
def yL_put : MethodName := ⟨RL, "put", "(LBladeDesk;I[J)I"⟩
abbrev cL_take : ByteArray := method_17_code
def yL_take : MethodName := ⟨RL, "take", "(LBladeDesk;I[J)I"⟩
abbrev cL_restore : ByteArray := method_18_code
def yL_restore : MethodName := ⟨RL, "restore", "(LBladeDesk;I[J)I"⟩
abbrev cL_undo : ByteArray := method_19_code
def yL_undo : MethodName := ⟨RL, "undo", "(LBladeDesk;[J)I"⟩
abbrev cL_coefficient : ByteArray := method_20_code
def yL_coefficient : MethodName := ⟨RL, "coefficient", "(LBladeDesk;II[J)I"⟩
abbrev cL_form : ByteArray := method_21_code
def yL_form : MethodName := ⟨RL, "form", "(LBladeDesk;II[J)I"⟩
abbrev cL_inner : ByteArray := method_22_code
def yL_inner : MethodName := ⟨RL, "inner", "(LBladeDesk;II[J)I"⟩
abbrev cL_decomposable : ByteArray := method_23_code
def yL_decomposable : MethodName := ⟨RL, "decomposable", "(LBladeDesk;II[J)I"⟩
abbrev cL_factor : ByteArray := method_24_code
def yL_factor : MethodName := ⟨RL, "factor", "(LBladeDesk;III[J)I"⟩
abbrev cL_annihilator : ByteArray := method_25_code
def yL_annihilator : MethodName := ⟨RL, "annihilator", "(LBladeDesk;I[J)I"⟩
abbrev cL_basis : ByteArray := method_26_code
def yL_basis : MethodName := ⟨RL, "basis", "(LBladeDesk;III[J)I"⟩
abbrev cL_refused : ByteArray := method_27_code
def yL_refused : MethodName := ⟨RL, "refused", "(LBladeDesk;III[J)I"⟩
abbrev cL_compare : ByteArray := method_28_code
def yL_compare : MethodName := ⟨RL, "compare", "(LBladeDesk;II[J)I"⟩
abbrev cL_count : ByteArray := method_29_code
def yL_count : MethodName := ⟨RL, "count", "(LBladeDesk;I[J)I"⟩
abbrev cL_matrixAt : ByteArray := method_30_code
def yL_matrixAt : MethodName := ⟨RL, "matrixAt", "(LBladeDesk;II[J)I"⟩
abbrev cL_density : ByteArray := method_31_code
def yL_density : MethodName := ⟨RL, "density", "(LBladeDesk;I[D)I"⟩
abbrev cL_share : ByteArray := method_32_code
def yL_share : MethodName := ⟨RL, "share", "(LBladeDesk;II[D)I"⟩
abbrev cL_law : ByteArray := code
def yL_law : MethodName := ⟨RL, "law", "([I)Z"⟩
abbrev vwCl : List vw_C := [(RX1, TX1, 6), (RX3, TX3, 3), (RX4, TX4, 3), (RX6, TX6, 5), (RX7, TX7, 11), (RX8, TX8, 24)]
end
section
/-! THE SMALL MACHINE: a run of plain instructions over numbered cells, and that the machine itself follows it -/
def WB : List Cond := lw_tbl.filter goodWord
abbrev IM : Type := Nat → Nat → Int32
abbrev LM : Type := Nat → Nat → Int64
abbrev LV : Type := List (Nat × Value)
abbrev Rs : Type := Prop × Nat × LV × List Value × IM × LM
abbrev Kt : Type := List (Nat × Nat) → Prop → Nat → LV → List Value → IM → LM → Rs
abbrev En : Type := Nat × Instr × Nat × Nat × Value
abbrev Ft : Type := Nat → Option (Nat × Nat × Nat × Nat)
abbrev KdT : Type := Nat → Nat × Nat × Nat
/-- one place of a memory changed -/
def mu {α : Type} (f : Nat → Nat → α) (c j : Nat) (v : α) : Nat → Nat → α := fun a b => if a = c ∧ b = j then v else f a b
def gl : LV → Nat → Option Value
  | [], _ => none
  | (j, v) :: t, i => bif Nat.beq j i then some v else gl t i
def fil1 (i : Nat) : LV → (LV → Rs) → Rs
  | [], k => k []
  | (j, w) :: t, k => bif Nat.beq j i || (Nat.beq (j + 1) i && Nat.beq w.category 2) then fil1 i t k else fil1 i t (fun t' => k ((j, w) :: t'))
def sl1 (i : Nat) (v : Value) : LV → (LV → Rs) → Rs
  | [], k => k [(i, v)]
  | (j, w) :: t, k => bif Nat.ble i j then fil1 i ((j, w) :: t) (fun t' => k ((i, v) :: t')) else bif Nat.beq (j + 1) i && Nat.beq w.category 2 then sl1 i v t k else sl1 i v t (fun t' => k ((j, w) :: t'))
def fil2 (i : Nat) : LV → (LV → Rs) → Rs
  | [], k => k []
  | (j, w) :: t, k => bif Nat.beq j i || (Nat.beq j (i + 1) || (Nat.beq (j + 1) i && Nat.beq w.category 2)) then fil2 i t k else fil2 i t (fun t' => k ((j, w) :: t'))
def sl2 (i : Nat) (v : Value) : LV → (LV → Rs) → Rs
  | [], k => k [(i, v)]
  | (j, w) :: t, k => bif Nat.ble i j then fil2 i ((j, w) :: t) (fun t' => k ((i, v) :: t')) else bif Nat.beq (j + 1) i && Nat.beq w.category 2 then sl2 i v t k else sl2 i v t (fun t' => k ((j, w) :: t'))
def lk : List En → Nat → Option (Instr × Nat × Nat × Value)
  | [], _ => none
  | (q, r) :: t, pc => bif Nat.beq q pc then some r else lk t pc
/-- a branch, taken as the list of choices says -/
def brr (k : Kt) (P : Prop) (np tg : Nat) (ds : List (Nat × Nat)) (O : Prop) (pc : Nat) (lv : LV) (st0 st : List Value) (I : IM) (L : LM) : Rs :=
  match ds with
  | (1, _) :: ds' => k ds' (O ∧ P) tg lv st I L
  | (0, _) :: ds' => k ds' (O ∧ ¬ P) np lv st I L
  | _ => (O, pc, lv, st0, I, L)
def RET : Nat := 100000
/-- one instruction -/
def stp (kd : KdT) (F : Ft) (k : Kt) (ins : Instr) (np tg : Nat) (cv : Value) (ds : List (Nat × Nat)) (O : Prop) (pc : Nat) (lv : LV) (st : List Value) (I : IM) (L : LM) : Rs :=
  match ins with
  | .iconst _ => k ds O np lv (cv :: st) I L
  | .bipush _ => k ds O np lv (cv :: st) I L
  | .sipush _ => k ds O np lv (cv :: st) I L
  | .lconst _ => k ds O np lv (cv :: st) I L
  | .fconst _ => k ds O np lv (cv :: st) I L
  | .dconst _ => k ds O np lv (cv :: st) I L
  | .ldc _ => k ds O np lv (cv :: st) I L
  | .ldc_w _ => k ds O np lv (cv :: st) I L
  | .ldc2_w _ => k ds O np lv (cv :: st) I L
  | .iload i => match gl lv i with
    | some (.int x) => k ds O np lv (.int x :: st) I L
    | _ => (O, pc, lv, st, I, L)
  | .iload_n i => match gl lv i.val with
    | some (.int x) => k ds O np lv (.int x :: st) I L
    | _ => (O, pc, lv, st, I, L)
  | .lload i => match gl lv i with
    | some (.long x) => k ds O np lv (.long x :: st) I L
    | _ => (O, pc, lv, st, I, L)
  | .lload_n i => match gl lv i.val with
    | some (.long x) => k ds O np lv (.long x :: st) I L
    | _ => (O, pc, lv, st, I, L)
  | .fload_n i => match gl lv i.val with
    | some (.float x) => k ds O np lv (.float x :: st) I L
    | _ => (O, pc, lv, st, I, L)
  | .dload_n i => match gl lv i.val with
    | some (.double x) => k ds O np lv (.double x :: st) I L
    | _ => (O, pc, lv, st, I, L)
  | .aload i => match gl lv i with
    | some (.ref x) => k ds O np lv (.ref x :: st) I L
    | _ => (O, pc, lv, st, I, L)
  | .aload_n i => match gl lv i.val with
    | some (.ref x) => k ds O np lv (.ref x :: st) I L
    | _ => (O, pc, lv, st, I, L)
  | .istore i => match st with
    | .int x :: r => sl1 i (.int x) lv (fun lv' => k ds O np lv' r I L)
    | _ => (O, pc, lv, st, I, L)
  | .istore_n i => match st with
    | .int x :: r => sl1 i.val (.int x) lv (fun lv' => k ds O np lv' r I L)
    | _ => (O, pc, lv, st, I, L)
  | .astore i => match st with
    | .ref x :: r => sl1 i (.ref x) lv (fun lv' => k ds O np lv' r I L)
    | _ => (O, pc, lv, st, I, L)
  | .astore_n i => match st with
    | .ref x :: r => sl1 i.val (.ref x) lv (fun lv' => k ds O np lv' r I L)
    | _ => (O, pc, lv, st, I, L)
  | .fstore_n i => match st with
    | .float x :: r => sl1 i.val (.float x) lv (fun lv' => k ds O np lv' r I L)
    | _ => (O, pc, lv, st, I, L)
  | .lstore i => match st with
    | .long x :: r => sl2 i (.long x) lv (fun lv' => k ds O np lv' r I L)
    | _ => (O, pc, lv, st, I, L)
  | .lstore_n i => match st with
    | .long x :: r => sl2 i.val (.long x) lv (fun lv' => k ds O np lv' r I L)
    | _ => (O, pc, lv, st, I, L)
  | .dstore_n i => match st with
    | .double x :: r => sl2 i.val (.double x) lv (fun lv' => k ds O np lv' r I L)
    | _ => (O, pc, lv, st, I, L)
  | .iinc i _ => match gl lv i with
    | some (.int x) => match cv with
      | .int y => sl1 i (.int (x + y)) lv (fun lv' => k ds O np lv' st I L)
      | _ => (O, pc, lv, st, I, L)
    | _ => (O, pc, lv, st, I, L)
  | .iadd => match st with
    | .int y :: .int x :: r => k ds O np lv (.int (x + y) :: r) I L
    | _ => (O, pc, lv, st, I, L)
  | .isub => match st with
    | .int y :: .int x :: r => k ds O np lv (.int (x - y) :: r) I L
    | _ => (O, pc, lv, st, I, L)
  | .imul => match st with
    | .int y :: .int x :: r => k ds O np lv (.int (x * y) :: r) I L
    | _ => (O, pc, lv, st, I, L)
  | .idiv => match st with
    | .int y :: .int x :: r => k ds (O ∧ ¬ y = 0) np lv (.int (x / y) :: r) I L
    | _ => (O, pc, lv, st, I, L)
  | .irem => match st with
    | .int y :: .int x :: r => k ds (O ∧ ¬ y = 0) np lv (.int (x - x / y * y) :: r) I L
    | _ => (O, pc, lv, st, I, L)
  | .iand => match st with
    | .int y :: .int x :: r => k ds O np lv (.int (x &&& y) :: r) I L
    | _ => (O, pc, lv, st, I, L)
  | .ior => match st with
    | .int y :: .int x :: r => k ds O np lv (.int (x ||| y) :: r) I L
    | _ => (O, pc, lv, st, I, L)
  | .ixor => match st with
    | .int y :: .int x :: r => k ds O np lv (.int (x ^^^ y) :: r) I L
    | _ => (O, pc, lv, st, I, L)
  | .ishl => match st with
    | .int y :: .int x :: r => k ds O np lv (.int (x <<< (y &&& 31)) :: r) I L
    | _ => (O, pc, lv, st, I, L)
  | .ishr => match st with
    | .int y :: .int x :: r => k ds O np lv (.int (x >>> (y &&& 31)) :: r) I L
    | _ => (O, pc, lv, st, I, L)
  | .iushr => match st with
    | .int y :: .int x :: r => k ds O np lv (.int (x.toUInt32 >>> (y.toUInt32 &&& Int32.toUInt32 31)).toInt32 :: r) I L
    | _ => (O, pc, lv, st, I, L)
  | .ineg => match st with
    | .int x :: r => k ds O np lv (.int (-x) :: r) I L
    | _ => (O, pc, lv, st, I, L)
  | .ladd => match st with
    | .long y :: .long x :: r => k ds O np lv (.long (x + y) :: r) I L
    | _ => (O, pc, lv, st, I, L)
  | .lsub => match st with
    | .long y :: .long x :: r => k ds O np lv (.long (x - y) :: r) I L
    | _ => (O, pc, lv, st, I, L)
  | .lmul => match st with
    | .long y :: .long x :: r => k ds O np lv (.long (x * y) :: r) I L
    | _ => (O, pc, lv, st, I, L)
  | .ldiv => match st with
    | .long y :: .long x :: r => k ds (O ∧ ¬ y = 0) np lv (.long (x / y) :: r) I L
    | _ => (O, pc, lv, st, I, L)
  | .lrem => match st with
    | .long y :: .long x :: r => k ds (O ∧ ¬ y = 0) np lv (.long (x - x / y * y) :: r) I L
    | _ => (O, pc, lv, st, I, L)
  | .lneg => match st with
    | .long x :: r => k ds O np lv (.long (-x) :: r) I L
    | _ => (O, pc, lv, st, I, L)
  | .lshl => match st with
    | .int y :: .long x :: r => k ds O np lv (.long (x <<< (y.toInt64 &&& 63)) :: r) I L
    | _ => (O, pc, lv, st, I, L)
  | .lcmp => match st with
    | .long y :: .long x :: r => k ds O np lv (.int (lg_cmp x y) :: r) I L
    | _ => (O, pc, lv, st, I, L)
  | .i2l => match st with
    | .int x :: r => k ds O np lv (.long x.toInt64 :: r) I L
    | _ => (O, pc, lv, st, I, L)
  | .l2i => match st with
    | .long x :: r => k ds O np lv (.int x.toInt32 :: r) I L
    | _ => (O, pc, lv, st, I, L)
  | .i2f => match st with
    | .int x :: r => k ds O np lv (.float (FP.i2f x) :: r) I L
    | _ => (O, pc, lv, st, I, L)
  | .i2d => match st with
    | .int x :: r => k ds O np lv (.double (FP.i2d x) :: r) I L
    | _ => (O, pc, lv, st, I, L)
  | .l2d => match st with
    | .long x :: r => k ds O np lv (.double (FP.l2d x) :: r) I L
    | _ => (O, pc, lv, st, I, L)
  | .f2i => match st with
    | .float x :: r => k ds O np lv (.int (FP.f2i x) :: r) I L
    | _ => (O, pc, lv, st, I, L)
  | .d2l => match st with
    | .double x :: r => k ds O np lv (.long (FP.d2l x) :: r) I L
    | _ => (O, pc, lv, st, I, L)
  | .fsub => match st with
    | .float y :: .float x :: r => k ds (O ∧ vf_n32 (FP.fsub x y)) np lv (.float (FP.fsub x y) :: r) I L
    | _ => (O, pc, lv, st, I, L)
  | .fmul => match st with
    | .float y :: .float x :: r => k ds (O ∧ vf_n32 (FP.fmul x y)) np lv (.float (FP.fmul x y) :: r) I L
    | _ => (O, pc, lv, st, I, L)
  | .fdiv => match st with
    | .float y :: .float x :: r => k ds (O ∧ vf_n32 (FP.fdiv x y)) np lv (.float (FP.fdiv x y) :: r) I L
    | _ => (O, pc, lv, st, I, L)
  | .fcmp op => match st with
    | .float y :: .float x :: r => k ds O np lv (.int (Op.cmpValue (FP.fcmp x y) op) :: r) I L
    | _ => (O, pc, lv, st, I, L)
  | .dsub => match st with
    | .double y :: .double x :: r => k ds (O ∧ vf_n64 (FP.dsub x y)) np lv (.double (FP.dsub x y) :: r) I L
    | _ => (O, pc, lv, st, I, L)
  | .dmul => match st with
    | .double y :: .double x :: r => k ds (O ∧ vf_n64 (FP.dmul x y)) np lv (.double (FP.dmul x y) :: r) I L
    | _ => (O, pc, lv, st, I, L)
  | .ddiv => match st with
    | .double y :: .double x :: r => k ds (O ∧ vf_n64 (FP.ddiv x y)) np lv (.double (FP.ddiv x y) :: r) I L
    | _ => (O, pc, lv, st, I, L)
  | .dcmp op => match st with
    | .double y :: .double x :: r => k ds O np lv (.int (Op.cmpValue (FP.dcmp x y) op) :: r) I L
    | _ => (O, pc, lv, st, I, L)
  | .dup => match st with
    | .int x :: r => k ds O np lv (.int x :: .int x :: r) I L
    | .ref x :: r => k ds O np lv (.ref x :: .ref x :: r) I L
    | _ => (O, pc, lv, st, I, L)
  | .dup2 => match st with
    | .int y :: .ref x :: r => k ds O np lv (.int y :: .ref x :: .int y :: .ref x :: r) I L
    | _ => (O, pc, lv, st, I, L)
  | .goto _ => k ds O tg lv st I L
  | .ifCond .eq _ => match st with
    | .int x :: r => brr k (x = 0) np tg ds O pc lv st r I L
    | _ => (O, pc, lv, st, I, L)
  | .ifCond .ne _ => match st with
    | .int x :: r => brr k (x ≠ 0) np tg ds O pc lv st r I L
    | _ => (O, pc, lv, st, I, L)
  | .ifCond .lt _ => match st with
    | .int x :: r => brr k (x < 0) np tg ds O pc lv st r I L
    | _ => (O, pc, lv, st, I, L)
  | .ifCond .ge _ => match st with
    | .int x :: r => brr k (0 ≤ x) np tg ds O pc lv st r I L
    | _ => (O, pc, lv, st, I, L)
  | .ifCond .gt _ => match st with
    | .int x :: r => brr k (0 < x) np tg ds O pc lv st r I L
    | _ => (O, pc, lv, st, I, L)
  | .ifCond .le _ => match st with
    | .int x :: r => brr k (x ≤ 0) np tg ds O pc lv st r I L
    | _ => (O, pc, lv, st, I, L)
  | .if_icmp .eq _ => match st with
    | .int y :: .int x :: r => brr k (x = y) np tg ds O pc lv st r I L
    | _ => (O, pc, lv, st, I, L)
  | .if_icmp .ne _ => match st with
    | .int y :: .int x :: r => brr k (x ≠ y) np tg ds O pc lv st r I L
    | _ => (O, pc, lv, st, I, L)
  | .if_icmp .lt _ => match st with
    | .int y :: .int x :: r => brr k (x < y) np tg ds O pc lv st r I L
    | _ => (O, pc, lv, st, I, L)
  | .if_icmp .ge _ => match st with
    | .int y :: .int x :: r => brr k (y ≤ x) np tg ds O pc lv st r I L
    | _ => (O, pc, lv, st, I, L)
  | .if_icmp .gt _ => match st with
    | .int y :: .int x :: r => brr k (y < x) np tg ds O pc lv st r I L
    | _ => (O, pc, lv, st, I, L)
  | .if_icmp .le _ => match st with
    | .int y :: .int x :: r => brr k (x ≤ y) np tg ds O pc lv st r I L
    | _ => (O, pc, lv, st, I, L)
  | .getfield ix => match st with
    | .ref c :: r => match F ix with
      | some (ci, j, 0, _) => k ds (O ∧ kd c = (0, ci, 0)) np lv (.int (I c j) :: r) I L
      | some (ci, j, 1, _) => k ds (O ∧ kd c = (0, ci, 0)) np lv (.long (L c j) :: r) I L
      | some (ci, _, 2, off) => match ds with
        | (q, _) :: ds' => k ds' (O ∧ (kd c = (0, ci, 0) ∧ q = c + off)) np lv (.ref q :: r) I L
        | _ => (O, pc, lv, st, I, L)
      | some (ci, j, 3, _) => k ds (O ∧ kd c = (0, ci, 0)) np lv (.int (I c j) :: r) I L
      | _ => (O, pc, lv, st, I, L)
    | _ => (O, pc, lv, st, I, L)
  | .putfield ix => match st with
    | .int v :: .ref c :: r => match F ix with
      | some (ci, j, 0, _) => k ds (O ∧ kd c = (0, ci, 0)) np lv r (mu I c j v) L
      | some (ci, j, 3, _) => k ds (O ∧ (kd c = (0, ci, 0) ∧ (v = 0 ∨ v = 1))) np lv r (mu I c j v) L
      | _ => (O, pc, lv, st, I, L)
    | .long v :: .ref c :: r => match F ix with
      | some (ci, j, 1, _) => k ds (O ∧ kd c = (0, ci, 0)) np lv r I (mu L c j v)
      | _ => (O, pc, lv, st, I, L)
    | _ => (O, pc, lv, st, I, L)
  | .iaload => match st with
    | .int x :: .ref c :: r => match ds with
      | (j, n) :: ds' => k ds' (O ∧ (kd c = (1, n, 0) ∧ x = nI j ∧ j < n)) np lv (.int (I c j) :: r) I L
      | _ => (O, pc, lv, st, I, L)
    | _ => (O, pc, lv, st, I, L)
  | .laload => match st with
    | .int x :: .ref c :: r => match ds with
      | (j, n) :: ds' => k ds' (O ∧ (kd c = (2, n, 0) ∧ x = nI j ∧ j < n)) np lv (.long (L c j) :: r) I L
      | _ => (O, pc, lv, st, I, L)
    | _ => (O, pc, lv, st, I, L)
  | .baload => match st with
    | .int x :: .ref c :: r => match ds with
      | (j, n) :: ds' => k ds' (O ∧ (kd c = (3, n, 0) ∧ x = nI j ∧ j < n)) np lv (.int (I c j) :: r) I L
      | _ => (O, pc, lv, st, I, L)
    | _ => (O, pc, lv, st, I, L)
  | .aaload => match st with
    | .int x :: .ref c :: r => match ds with
      | (j, n) :: (q, t) :: ds' => k ds' (O ∧ ((∃ w, kd c = (t, n, w) ∧ q = c + 1 + j * w) ∧ 4 ≤ t ∧ t ≤ 6 ∧ x = nI j ∧ j < n)) np lv (.ref q :: r) I L
      | _ => (O, pc, lv, st, I, L)
    | _ => (O, pc, lv, st, I, L)
  | .iastore => match st with
    | .int v :: .int x :: .ref c :: r => match ds with
      | (j, n) :: ds' => k ds' (O ∧ (kd c = (1, n, 0) ∧ x = nI j ∧ j < n)) np lv r (mu I c j v) L
      | _ => (O, pc, lv, st, I, L)
    | _ => (O, pc, lv, st, I, L)
  | .lastore => match st with
    | .long v :: .int x :: .ref c :: r => match ds with
      | (j, n) :: ds' => k ds' (O ∧ (kd c = (2, n, 0) ∧ x = nI j ∧ j < n)) np lv r I (mu L c j v)
      | _ => (O, pc, lv, st, I, L)
    | _ => (O, pc, lv, st, I, L)
  | .bastore => match st with
    | .int v :: .int x :: .ref c :: r => match ds with
      | (j, n) :: ds' => k ds' (O ∧ (kd c = (3, n, 0) ∧ x = nI j ∧ j < n ∧ (v = 0 ∨ v = 1))) np lv r (mu I c j v) L
      | _ => (O, pc, lv, st, I, L)
    | _ => (O, pc, lv, st, I, L)
  | .ireturn => match st with
    | [.int x] => (O, RET, lv, [.int x], I, L)
    | _ => (O, pc, lv, st, I, L)
  | .lreturn => match st with
    | [.long x] => (O, RET, lv, [.long x], I, L)
    | _ => (O, pc, lv, st, I, L)
  | .freturn => match st with
    | [.float x] => (O, RET, lv, [.float x], I, L)
    | _ => (O, pc, lv, st, I, L)
  | .dreturn => match st with
    | [.double x] => (O, RET, lv, [.double x], I, L)
    | _ => (O, pc, lv, st, I, L)
  | .return_ => match st with
    | [] => (O, RET, lv, [], I, L)
    | _ => (O, pc, lv, st, I, L)
  | _ => (O, pc, lv, st, I, L)
def run (kd : KdT) (F : Ft) (P : List En) : Nat → Kt
  | 0 => fun _ O pc lv st I L => (O, pc, lv, st, I, L)
  | n + 1 => fun ds O pc lv st I L => match lk P pc with
    | some (ins, np, tg, cv) => stp kd F (run kd F P n) ins np tg cv ds O pc lv st I L
    | none => (O, pc, lv, st, I, L)
end
section
/-! THE WORLD of numbered cells over the heap -/
def cz (ad : Nat → Nat) : Value → Value
  | .ref i => .ref (ad i)
  | v => v
theorem cz_cat (ad : Nat → Nat) (v : Value) : (cz ad v).category = v.category := by cases v <;> rfl
/-- the fields of an object: kind 0 and 3 whole numbers, 1 long ones, 2 a reference that many cells further -/
def fdv (ad : Nat → Nat) (I : IM) (L : LM) (i : Nat) : Nat → List (Nat × Nat) → List Value
  | _, [] => []
  | k, (t, o) :: r => (if t = 1 then .long (L i k) else if t = 2 then .ref (ad (i + o)) else .int (I i k)) :: fdv ad I L i (k + 1) r
/-- the classes' fields, by the numbers of vwCl: kind, and how many cells further a reference lies -/
def FD (ci : Nat) : List (Nat × Nat) :=
  if ci = 0 then [(2, 1), (0, 0), (0, 0), (3, 0), (0, 0), (0, 0)]
  else if ci = 1 then [(2, 1), (0, 0), (0, 0)]
  else if ci = 2 then [(2, 1), (2, 7), (0, 0)]
  else if ci = 3 then [(0, 0), (2, 1), (2, 10), (2, 11), (2, 17)]
  else if ci = 4 then [(2, 1), (2, 19), (2, 129), (2, 166), (2, 167), (0, 0), (2, 168), (2, 169), (2, 170), (2, 171), (2, 179)]
  else [(2, 1), (2, 2), (0, 0), (2, 3), (2, 4), (2, 5), (0, 0), (0, 0), (2, 6), (2, 7), (2, 8), (2, 9), (0, 0), (3, 0), (0, 0), (0, 0), (0, 0), (0, 0), (0, 0), (2, 10), (2, 11), (0, 0), (1, 0), (1, 0)]
def ctn (cy : Nat → ClassId) (kd : KdT) (ad : Nat → Nat) (I : IM) (L : LM) (i : Nat) : va_E :=
  if (kd i).1 = 0 then .inr ((kd i).2.1, fdv ad I L i 0 (FD (kd i).2.1))
  else if (kd i).1 = 1 then .inl (cy 0, (kd i).2.1, .inl (I i))
  else if (kd i).1 = 2 then .inl (cy 1, (kd i).2.1, .inr (.inl (L i)))
  else if (kd i).1 = 3 then .inl (cy 2, (kd i).2.1, .inl (I i))
  else .inl (cy ((kd i).1 - 1), (kd i).2.1, .inr (.inr (.inr (.inr (fun j => if j < (kd i).2.1 then some (ad (i + 1 + j * (kd i).2.2)) else none)))))
/-- the world: N cells -/
def wd (D : va_G) (cy : Nat → ClassId) (kd : KdT) (ad : Nat → Nat) (N : Nat) (I : IM) (L : LM) (H : Heap) : Prop := ∀ i, i < N → va_at D vwCl (ad i, ctn cy kd ad I L i) H
def AA (ad : Nat → Nat) (N : Nat) : Nat → Prop := fun q => ∃ i, i < N ∧ q = ad i
def inj (ad : Nat → Nat) (N : Nat) : Prop := ∀ i j, i < N → j < N → ad i = ad j → i = j
/-- the table of kinds is a good one: kinds 0 to 6, and what is named lies within; no array is too long -/
def kdOK (kd : KdT) (N : Nat) : Prop := (∀ i, (kd i).1 ≤ 6 → i < N) ∧ (∀ i, (kd i).2.1 < 2147483648)
def tysC (cy : Nat → ClassId) : List (ClassId × FieldType) := [(cy 0, .int), (cy 1, .long), (cy 2, .boolean), (cy 3, .object "BladeDesk$State"), (cy 4, .array .int), (cy 5, .array .long), (cy 6, .double)]
theorem mu_self {α : Type} (f : Nat → Nat → α) (c j : Nat) (v : α) : mu f c j v c j = v := by simp [mu]
theorem mu_row {α : Type} (f : Nat → Nat → α) (c j : Nat) (v : α) : mu f c j v c = fun b => if b = j then v else f c b := by funext b; simp [mu]
theorem mu_ne {α : Type} (f : Nat → Nat → α) {c j a : Nat} (v : α) (h : a ≠ c) : mu f c j v a = f a := by funext b; simp [mu, h]
theorem fdv_get (ad : Nat → Nat) (I : IM) (L : LM) (i : Nat) : ∀ (l : List (Nat × Nat)) (k0 k : Nat) (t o : Nat), l[k]? = some (t, o) → (fdv ad I L i k0 l)[k]? = some (if t = 1 then .long (L i (k0 + k)) else if t = 2 then .ref (ad (i + o)) else .int (I i (k0 + k)))
  | [], _, _, _, _, h => by simp at h
  | (t1, o1) :: r, k0, 0, t, o, h => by
    simp at h
    obtain ⟨rfl, rfl⟩ := h
    simp [fdv]
  | (t1, o1) :: r, k0, k + 1, t, o, h => by
    rw [List.getElem?_cons_succ] at h
    have := fdv_get ad I L i r (k0 + 1) k t o h
    rw [show fdv ad I L i k0 ((t1, o1) :: r) = (if t1 = 1 then .long (L i k0) else if t1 = 2 then .ref (ad (i + o1)) else .int (I i k0)) :: fdv ad I L i (k0 + 1) r from rfl, List.getElem?_cons_succ, this]
    simp only [show k0 + 1 + k = k0 + (k + 1) by omega]
theorem fdv_len (ad : Nat → Nat) (I : IM) (L : LM) (i : Nat) : ∀ (l : List (Nat × Nat)) (k0 : Nat), (fdv ad I L i k0 l).length = l.length
  | [], _ => rfl
  | (t, o) :: r, k0 => by simp [fdv, fdv_len ad I L i r (k0 + 1)]
theorem fdv_other (ad : Nat → Nat) (I I2 : IM) (L L2 : LM) (i : Nat) (h1 : I2 i = I i) (h2 : L2 i = L i) : ∀ (l : List (Nat × Nat)) (k0 : Nat), fdv ad I2 L2 i k0 l = fdv ad I L i k0 l
  | [], _ => rfl
  | (t, o) :: r, k0 => by simp [fdv, h1, h2, fdv_other ad I I2 L L2 i h1 h2 r (k0 + 1)]
theorem fdv_tail (ad : Nat → Nat) (I : IM) (L : LM) (i j : Nat) (v : Int32) : ∀ (l : List (Nat × Nat)) (k0 : Nat), j < k0 → fdv ad (mu I i j v) L i k0 l = fdv ad I L i k0 l
  | [], _, _ => rfl
  | (t, o) :: r, k0, h => by
    have hne : ¬ k0 = j := by omega
    simp [fdv, mu, hne, fdv_tail ad I L i j v r (k0 + 1) (by omega)]
theorem fdv_setI (ad : Nat → Nat) (I : IM) (L : LM) (i j : Nat) (v : Int32) : ∀ (l : List (Nat × Nat)) (k0 k : Nat) (t o : Nat), l[k]? = some (t, o) → t ≠ 1 → t ≠ 2 → j = k0 + k → fdv ad (mu I i j v) L i k0 l = (fdv ad I L i k0 l).set k (.int v)
  | [], _, _, _, _, h, _, _, _ => by simp at h
  | (t1, o1) :: r, k0, 0, t, o, h, n1, n2, hj => by
    simp at h
    obtain ⟨rfl, rfl⟩ := h
    have hj : k0 = j := by omega
    subst hj
    have e : fdv ad (mu I i k0 v) L i (k0 + 1) r = fdv ad I L i (k0 + 1) r := fdv_tail ad I L i k0 v r (k0 + 1) (by omega)
    simp only [fdv, if_neg n1, if_neg n2, List.set_cons_zero, e]
    simp [mu]
  | (t1, o1) :: r, k0, k + 1, t, o, h, n1, n2, hj => by
    rw [List.getElem?_cons_succ] at h
    have := fdv_setI ad I L i j v r (k0 + 1) k t o h n1 n2 (by omega)
    simp only [fdv, List.set_cons_succ, this]
    have hne : ¬ k0 = j := by omega
    simp [mu, hne]
theorem fdv_tailL (ad : Nat → Nat) (I : IM) (L : LM) (i j : Nat) (v : Int64) : ∀ (l : List (Nat × Nat)) (k0 : Nat), j < k0 → fdv ad I (mu L i j v) i k0 l = fdv ad I L i k0 l
  | [], _, _ => rfl
  | (t, o) :: r, k0, h => by
    have hne : ¬ k0 = j := by omega
    simp [fdv, mu, hne, fdv_tailL ad I L i j v r (k0 + 1) (by omega)]
theorem fdv_setL (ad : Nat → Nat) (I : IM) (L : LM) (i j : Nat) (v : Int64) : ∀ (l : List (Nat × Nat)) (k0 k : Nat) (o : Nat), l[k]? = some (1, o) → j = k0 + k → fdv ad I (mu L i j v) i k0 l = (fdv ad I L i k0 l).set k (.long v)
  | [], _, _, _, h, _ => by simp at h
  | (t1, o1) :: r, k0, 0, o, h, hj => by
    simp at h
    obtain ⟨rfl, rfl⟩ := h
    have hj : k0 = j := by omega
    subst hj
    have e : fdv ad I (mu L i k0 v) i (k0 + 1) r = fdv ad I L i (k0 + 1) r := fdv_tailL ad I L i k0 v r (k0 + 1) (by omega)
    simp only [fdv, if_true, List.set_cons_zero, e]
    simp [mu]
  | (t1, o1) :: r, k0, k + 1, o, h, hj => by
    rw [List.getElem?_cons_succ] at h
    have := fdv_setL ad I L i j v r (k0 + 1) k o h (by omega)
    simp only [fdv, List.set_cons_succ, this]
    have hne : ¬ k0 = j := by omega
    simp [mu, hne]
/-- a world behind a change of one cell -/
theorem wd_put {D : va_G} {cy : Nat → ClassId} {kd : KdT} {ad : Nat → Nat} {N : Nat} {I I2 : IM} {L L2 : LM} {H H1 : Heap} (hinj : inj ad N) (h : wd D cy kd ad N I L H) {c : Nat} (hc : c < N) (he : va_at D vwCl (ad c, ctn cy kd ad I2 L2 c) H1) (oq : ∀ q : Nat, q ≠ ad c → H1[q]? = H[q]?) (h1 : ∀ i, i ≠ c → I2 i = I i) (h2 : ∀ i, i ≠ c → L2 i = L i) : wd D cy kd ad N I2 L2 H1 := by
  intro i hi
  by_cases e : i = c
  · subst e; exact he
  · have : ctn cy kd ad I2 L2 i = ctn cy kd ad I L i := by
      unfold ctn
      rw [h1 i e, h2 i e, fdv_other ad I I2 L L2 i (h1 i e) (h2 i e)]
    rw [this]
    exact (h i hi).kept (oq (ad i) (fun z => e (hinj i c hi hc z)))
theorem wd_kept {D : va_G} {cy : Nat → ClassId} {kd : KdT} {ad : Nat → Nat} {N : Nat} {I : IM} {L : LM} {H H1 : Heap} (h : wd D cy kd ad N I L H) (oq : ∀ i, i < N → H1[ad i]? = H[ad i]?) : wd D cy kd ad N I L H1 := fun i hi => (h i hi).kept (oq i hi)
end
section
/-! SOUNDNESS of the small machine -/
def ilen : Instr → Nat
  | .bipush _ => 2
  | .sipush _ => 3
  | .ldc _ => 2
  | .ldc_w _ => 3
  | .ldc2_w _ => 3
  | .iload _ => 2
  | .lload _ => 2
  | .fload _ => 2
  | .dload _ => 2
  | .aload _ => 2
  | .istore _ => 2
  | .lstore _ => 2
  | .fstore _ => 2
  | .dstore _ => 2
  | .astore _ => 2
  | .iinc _ _ => 3
  | .goto _ => 3
  | .ifCond _ _ => 3
  | .if_icmp _ _ => 3
  | .getfield _ => 3
  | .putfield _ => 3
  | .invokevirtual _ => 3
  | .invokestatic _ => 3
  | .invokespecial _ => 3
  | .new _ => 3
  | .newarray _ => 2
  | .anewarray _ => 3
  | .multianewarray _ _ => 4
  | _ => 1
def btB (ins : Instr) (pc tg : Nat) : Bool := match ins with
  | .goto off => decide ((pc : Int) + off = (tg : Int))
  | .ifCond _ off => decide ((pc : Int) + off = (tg : Int))
  | .if_icmp _ off => decide ((pc : Int) + off = (tg : Int))
  | _ => true
def cvB (own : String) (ins : Instr) (cv : Value) : Bool := match ins with
  | .iconst n => decide (cv = .int (Int32.ofInt n))
  | .bipush n => decide (cv = .int (Int8.ofInt n).toInt32)
  | .sipush n => decide (cv = .int (Int16.ofInt n).toInt32)
  | .lconst n => decide (cv = .long (Int64.ofNat n.val))
  | .fconst n => (decide (n = 0 ∧ cv = .float 0) || decide (n = 1 ∧ cv = .float 1065353216)) || decide (n = 2 ∧ cv = .float 1073741824)
  | .dconst n => decide (n = 0 ∧ cv = .double 0) || decide (n = 1 ∧ cv = .double 4607182418800017408)
  | .iinc _ n => decide (cv = .int (Int32.ofInt n))
  | .ldc ix => (match cv with
    | .int v => decide (Cond.constant own ix v ∈ WB)
    | .float v => decide (Cond.constantFloat own ix v ∈ WB)
    | _ => false)
  | .ldc_w ix => (match cv with
    | .int v => decide (Cond.constant own ix v ∈ WB)
    | _ => false)
  | .ldc2_w ix => (match cv with
    | .long v => decide (Cond.constantLong own ix v ∈ WB)
    | .double v => decide (Cond.constantDouble own ix v ∈ WB)
    | _ => false)
  | _ => true
def okE (cc : ByteArray) (own : String) (q : En) : Bool := decide (decode cc q.1 = .ok (q.2.1, ilen q.2.1)) && Nat.beq q.2.2.1 (q.1 + ilen q.2.1) && btB q.2.1 q.1 q.2.2.2.1 && cvB own q.2.1 q.2.2.2.2 && (Nat.ble q.1 65535 && (Nat.ble q.2.2.1 65535 && Nat.ble q.2.2.2.1 65535))
def okP (cc : ByteArray) (own : String) (P : List En) : Bool := P.all (okE cc own)
theorem lk_mem : ∀ (P : List En) {pc : Nat} {r : Instr × Nat × Nat × Value}, lk P pc = some r → (pc, r) ∈ P
  | [], pc, r, h => by simp [lk] at h
  | (q, z) :: t, pc, r, h => by
    simp only [lk] at h
    cases hq : Nat.beq q pc with
    | true =>
      rw [hq] at h
      simp only [cond_true, Option.some.injEq] at h
      rw [Nat.eq_of_beq_eq_true hq, h]
      exact List.mem_cons_self
    | false =>
      rw [hq] at h
      simp only [cond_false] at h
      exact List.mem_cons_of_mem _ (lk_mem t h)
/-- what is known of an instruction that the table names -/
def InsOK (cc : ByteArray) (own : String) (pc : Nat) (ins : Instr) (np tg : Nat) (cv : Value) : Prop := decode cc pc = .ok (ins, ilen ins) ∧ np = pc + ilen ins ∧ btB ins pc tg = true ∧ cvB own ins cv = true ∧ pc < RET ∧ np < RET ∧ tg < RET
theorem insOK_of {cc : ByteArray} {own : String} {P : List En} (h : okP cc own P = true) {pc : Nat} {ins : Instr} {np tg : Nat} {cv : Value} (hl : lk P pc = some (ins, np, tg, cv)) : InsOK cc own pc ins np tg cv := by
  have h1 := List.all_eq_true.mp h _ (lk_mem P hl)
  simp only [okE, Bool.and_eq_true, decide_eq_true_eq, Nat.ble_eq] at h1
  obtain ⟨⟨⟨⟨a, b⟩, c⟩, d⟩, e1, e2, e3⟩ := h1
  exact ⟨a, Nat.eq_of_beq_eq_true b, c, d, by unfold RET; omega, by unfold RET; omega, by unfold RET; omega⟩
/-- what is known of a field that the table names -/
def FOK (own : String) (F : Ft) : Prop := ∀ ix ci j t off, F ix = some (ci, j, t, off) → ∃ (C : String) (T : u_T) (NF : Nat) (ty0 : Nat → FieldType), vwCl[ci]? = some (C, T, NF) ∧ j < NF ∧ (∀ w ∈ u_ws C T NF, w ∈ WB) ∧ Cond.fieldLink own ix C (T j).2.1 (T j).2.2.1 ∈ WB ∧ (T j).1 = C ∧ (FD ci)[j]? = some (t, off) ∧ (FD ci).length = NF ∧ (∀ k, k < NF → parseFieldDescriptor (T k).2.2.1 = some (ty0 k)) ∧ (∀ a, a < NF → ∀ b, b < NF → a ≠ b → (T a).2.1 ≠ (T b).2.1) ∧ (t ≠ 2 → (T j).2.2.2 = false) ∧ (t = 0 → ty0 j = .int) ∧ (t = 1 → ty0 j = .long) ∧ (t = 3 → ty0 j = .boolean)
/-- the fixed part of a walk -/
def Cx (p : Program) (s : State) (m : MethodId) (args : Array Value) (c : Code) (cc : ByteArray) (nL : Nat) (own : String) (D : va_G) (cy : Nat → ClassId) (kd : KdT) (ad : Nat → Nat) (N : Nat) : Prop :=
  p.tables.exec = Jvm.exec ∧ c.code = cc ∧ c.maxLocals = nL ∧ s.vm.findClass own = some m.cls ∧ (∀ w ∈ WB, w.before args s = true) ∧ va_K D vwCl (tysC cy) s ∧ inj ad N ∧ kdOK kd N
def VV (p : Program) (l : Launch) (e : Env) (R : Room) (s : State) (m : MethodId) (args : Array Value) (below : List Frame) (meth : Method) (c : Code) (Q : State → Prop) (nL : Nat) (D : va_G) (cy : Nat → ClassId) (kd : KdT) (ad : Nat → Nat) (N : Nat) (pc : Nat) (lv : LV) (st : List Value) (I : IM) (L : LM) : Prop :=
  ∀ (H : Heap) (locs : List Loc) (ls : Array Slot), wd D cy kd ad N I L H → va_S (AA ad N) s.heap H locs → lv_has ls nL (lv.map fun q => (q.1, cz ad q.2)) → W p l e R s m args below meth c H locs 0 0 Q (F0 m pc ls (st.map (cz ad)))
/-- at the end: what is to hold of the answer and the memory -/
def VR (V : Nat → LV → List Value → IM → LM → Prop) (E : List Value → IM → LM → Prop) (r : Rs) : Prop := if r.2.1 = RET then E r.2.2.2.1 r.2.2.2.2.1 r.2.2.2.2.2 else V r.2.1 r.2.2.1 r.2.2.2.1 r.2.2.2.2.1 r.2.2.2.2.2
def Res (V : Nat → LV → List Value → IM → LM → Prop) (E : List Value → IM → LM → Prop) (O : Prop) (r : Rs) (G : Prop) : Prop := (r.1 → O) ∧ (r.1 → VR V E r → G)
section RES
variable {V : Nat → LV → List Value → IM → LM → Prop} {E : List Value → IM → LM → Prop} {O ob G G' : Prop} {r : Rs}
theorem res_pl (h : Res V E O r G') (g : G' → G) : Res V E O r G := ⟨h.1, fun a b => g (h.2 a b)⟩
theorem res_ob (h : Res V E (O ∧ ob) r G') (g : ob → G' → G) : Res V E O r G := ⟨fun a => (h.1 a).1, fun a b => g (h.1 a).2 (h.2 a b)⟩
theorem res_stuck {pc : Nat} {lv : LV} {st : List Value} {I : IM} {L : LM} (h : pc < RET) : Res V E O (O, pc, lv, st, I, L) (V pc lv st I L) := ⟨id, fun _ b => by simpa [VR, Nat.ne_of_lt h] using b⟩
theorem res_ret {lv : LV} {st : List Value} {I : IM} {L : LM} (g : E st I L → G) : Res V E O (O, RET, lv, st, I, L) G := ⟨id, fun _ b => g (by simpa [VR] using b)⟩
theorem res_br {k : Kt} {P : Prop} {np tg : Nat} {ds : List (Nat × Nat)} {pc : Nat} {lv : LV} {st0 st : List Value} {I : IM} {L : LM} (hpc : pc < RET) (hk : ∀ ds O pc, pc < RET → Res V E O (k ds O pc lv st I L) (V pc lv st I L)) (hn : np < RET) (ht : tg < RET) (gt : P → V tg lv st I L → V pc lv st0 I L) (gf : ¬ P → V np lv st I L → V pc lv st0 I L) : Res V E O (brr k P np tg ds O pc lv st0 st I L) (V pc lv st0 I L) := by
  unfold brr
  split
  · exact res_ob (hk _ _ _ ht) gt
  · exact res_ob (hk _ _ _ hn) gf
  · exact res_stuck hpc
end RES
theorem gl_get {ls : Array Slot} {nL : Nat} {ad : Nat → Nat} : ∀ {lv : LV} {i : Nat} {v : Value}, gl lv i = some v → (∀ q ∈ lv.map (fun q => (q.1, cz ad q.2)), ls[q.1]? = some (.val q.2)) → ls[i]? = some (.val (cz ad v))
  | [], _, _, h, _ => by simp [gl] at h
  | (j, w) :: t, i, v, h, hl => by
    simp only [gl] at h
    cases hq : Nat.beq j i with
    | true =>
      rw [hq] at h
      simp only [cond_true, Option.some.injEq] at h
      have := hl (j, cz ad w) (by simp)
      rw [← Nat.eq_of_beq_eq_true hq, ← h]
      exact this
    | false =>
      rw [hq] at h
      simp only [cond_false] at h
      exact gl_get (nL := nL) h (fun q hq2 => hl q (by rw [List.map_cons]; exact List.mem_cons_of_mem _ hq2))
/-- the list behind a store, told by its members -/
def lvOK1 (i : Nat) (v : Value) (lv lv' : LV) : Prop := ∀ q ∈ lv', q = (i, v) ∨ (q ∈ lv ∧ q.1 ≠ i ∧ ¬ (q.1 + 1 = i ∧ q.2.category = 2))
def lvOK2 (i : Nat) (v : Value) (lv lv' : LV) : Prop := ∀ q ∈ lv', q = (i, v) ∨ (q ∈ lv ∧ q.1 ≠ i ∧ q.1 ≠ i + 1 ∧ ¬ (q.1 + 1 = i ∧ q.2.category = 2))
theorem fil1_ok (i : Nat) : ∀ (lv : LV) (k : LV → Rs), ∃ lv', fil1 i lv k = k lv' ∧ ∀ q ∈ lv', q ∈ lv ∧ q.1 ≠ i ∧ ¬ (q.1 + 1 = i ∧ q.2.category = 2)
  | [], k => ⟨[], rfl, fun q h => by cases h⟩
  | (j, w) :: t, k => by
    simp only [fil1]
    cases hq : (Nat.beq j i || (Nat.beq (j + 1) i && Nat.beq w.category 2)) with
    | true =>
      obtain ⟨lv', h1, h2⟩ := fil1_ok i t k
      exact ⟨lv', h1, fun q h => ⟨List.mem_cons_of_mem _ (h2 q h).1, (h2 q h).2⟩⟩
    | false =>
      obtain ⟨lv', h1, h2⟩ := fil1_ok i t (fun t' => k ((j, w) :: t'))
      refine ⟨(j, w) :: lv', h1, fun q h => ?_⟩
      rcases List.mem_cons.mp h with rfl | h
      · simp only [Bool.or_eq_false_iff, Bool.and_eq_false_iff] at hq
        refine ⟨List.mem_cons_self, fun z => ?_, fun z => ?_⟩
        · simp at z
          rw [z] at hq
          simp at hq
        · obtain ⟨z1, z2⟩ := z
          simp at z1 z2
          rw [z1, z2] at hq
          simp at hq
      · exact ⟨List.mem_cons_of_mem _ (h2 q h).1, (h2 q h).2⟩
theorem sl1_ok (i : Nat) (v : Value) : ∀ (lv : LV) (k : LV → Rs), ∃ lv', sl1 i v lv k = k lv' ∧ lvOK1 i v lv lv'
  | [], k => ⟨[(i, v)], rfl, fun q h => Or.inl (List.mem_singleton.mp h)⟩
  | (j, w) :: t, k => by
    simp only [sl1]
    cases hq : Nat.ble i j with
    | true =>
      obtain ⟨lv', h1, h2⟩ := fil1_ok i ((j, w) :: t) (fun t' => k ((i, v) :: t'))
      refine ⟨(i, v) :: lv', h1, fun q h => ?_⟩
      rcases List.mem_cons.mp h with rfl | h
      · exact Or.inl rfl
      · exact Or.inr (h2 q h)
    | false =>
      simp only [cond_false]
      have hji : j < i := by
        rcases Nat.lt_or_ge j i with h | h
        · exact h
        · rw [Nat.ble_eq.mpr h] at hq; cases hq
      cases hq2 : (Nat.beq (j + 1) i && Nat.beq w.category 2) with
      | true =>
        obtain ⟨lv', h1, h2⟩ := sl1_ok i v t k
        refine ⟨lv', h1, fun q h => ?_⟩
        rcases h2 q h with h | h
        · exact Or.inl h
        · exact Or.inr ⟨List.mem_cons_of_mem _ h.1, h.2⟩
      | false =>
        obtain ⟨lv', h1, h2⟩ := sl1_ok i v t (fun t' => k ((j, w) :: t'))
        refine ⟨(j, w) :: lv', h1, fun q h => ?_⟩
        rcases List.mem_cons.mp h with rfl | h
        · refine Or.inr ⟨List.mem_cons_self, Nat.ne_of_lt hji, fun z => ?_⟩
          obtain ⟨z1, z2⟩ := z
          simp at z1 z2
          rw [z1, z2] at hq2
          simp at hq2
        · rcases h2 q h with h | h
          · exact Or.inl h
          · exact Or.inr ⟨List.mem_cons_of_mem _ h.1, h.2⟩
theorem fil2_ok (i : Nat) : ∀ (lv : LV) (k : LV → Rs), ∃ lv', fil2 i lv k = k lv' ∧ ∀ q ∈ lv', q ∈ lv ∧ q.1 ≠ i ∧ q.1 ≠ i + 1 ∧ ¬ (q.1 + 1 = i ∧ q.2.category = 2)
  | [], k => ⟨[], rfl, fun q h => by cases h⟩
  | (j, w) :: t, k => by
    simp only [fil2]
    cases hq : (Nat.beq j i || (Nat.beq j (i + 1) || (Nat.beq (j + 1) i && Nat.beq w.category 2))) with
    | true =>
      obtain ⟨lv', h1, h2⟩ := fil2_ok i t k
      exact ⟨lv', h1, fun q h => ⟨List.mem_cons_of_mem _ (h2 q h).1, (h2 q h).2⟩⟩
    | false =>
      obtain ⟨lv', h1, h2⟩ := fil2_ok i t (fun t' => k ((j, w) :: t'))
      refine ⟨(j, w) :: lv', h1, fun q h => ?_⟩
      rcases List.mem_cons.mp h with rfl | h
      · refine ⟨List.mem_cons_self, fun z => ?_, fun z => ?_, fun z => ?_⟩
        · simp at z
          rw [z] at hq
          simp at hq
        · simp at z
          rw [z] at hq
          simp at hq
        · obtain ⟨z1, z2⟩ := z
          simp at z1 z2
          rw [z1, z2] at hq
          simp at hq
      · exact ⟨List.mem_cons_of_mem _ (h2 q h).1, (h2 q h).2⟩
theorem sl2_ok (i : Nat) (v : Value) : ∀ (lv : LV) (k : LV → Rs), ∃ lv', sl2 i v lv k = k lv' ∧ lvOK2 i v lv lv'
  | [], k => ⟨[(i, v)], rfl, fun q h => Or.inl (List.mem_singleton.mp h)⟩
  | (j, w) :: t, k => by
    simp only [sl2]
    cases hq : Nat.ble i j with
    | true =>
      obtain ⟨lv', h1, h2⟩ := fil2_ok i ((j, w) :: t) (fun t' => k ((i, v) :: t'))
      refine ⟨(i, v) :: lv', h1, fun q h => ?_⟩
      rcases List.mem_cons.mp h with rfl | h
      · exact Or.inl rfl
      · exact Or.inr (h2 q h)
    | false =>
      simp only [cond_false]
      have hji : j < i := by
        rcases Nat.lt_or_ge j i with h | h
        · exact h
        · rw [Nat.ble_eq.mpr h] at hq; cases hq
      cases hq2 : (Nat.beq (j + 1) i && Nat.beq w.category 2) with
      | true =>
        obtain ⟨lv', h1, h2⟩ := sl2_ok i v t k
        refine ⟨lv', h1, fun q h => ?_⟩
        rcases h2 q h with h | h
        · exact Or.inl h
        · exact Or.inr ⟨List.mem_cons_of_mem _ h.1, h.2⟩
      | false =>
        obtain ⟨lv', h1, h2⟩ := sl2_ok i v t (fun t' => k ((j, w) :: t'))
        refine ⟨(j, w) :: lv', h1, fun q h => ?_⟩
        rcases List.mem_cons.mp h with rfl | h
        · refine Or.inr ⟨List.mem_cons_self, Nat.ne_of_lt hji, fun z => ?_, fun z => ?_⟩
          · simp at z
            omega
          · obtain ⟨z1, z2⟩ := z
            simp at z1 z2
            rw [z1, z2] at hq2
            simp at hq2
        · rcases h2 q h with h | h
          · exact Or.inl h
          · exact Or.inr ⟨List.mem_cons_of_mem _ h.1, h.2⟩
theorem lvOK1_has {ls : Array Slot} {nL i : Nat} {v : Value} {lv lv' : LV} {ad : Nat → Nat} (h : lvOK1 i v lv lv') (hl : lv_has ls nL ((i, cz ad v) :: (lv.map fun q => (q.1, cz ad q.2)).filter (fun q => !(q.1 == i) && !(q.1 + 1 == i && q.2.category == 2)))) : lv_has ls nL (lv'.map fun q => (q.1, cz ad q.2)) := by
  refine ⟨hl.1, hl.2.1, fun q hq => hl.2.2 q ?_⟩
  obtain ⟨z, hz, rfl⟩ := List.mem_map.mp hq
  rcases h z hz with rfl | ⟨h1, h2, h3⟩
  · exact List.mem_cons_self
  · refine List.mem_cons_of_mem _ (List.mem_filter.mpr ⟨List.mem_map.mpr ⟨z, h1, rfl⟩, ?_⟩)
    simp only [cz_cat]
    simp
    exact ⟨h2, Classical.not_and_iff_not_or_not.mp h3⟩
theorem lvOK2_has {ls : Array Slot} {nL i : Nat} {v : Value} {lv lv' : LV} {ad : Nat → Nat} (h : lvOK2 i v lv lv') (hl : lv_has ls nL ((i, cz ad v) :: (lv.map fun q => (q.1, cz ad q.2)).filter (fun q => !(q.1 == i) && (!(q.1 == i + 1) && !(q.1 + 1 == i && q.2.category == 2))))) : lv_has ls nL (lv'.map fun q => (q.1, cz ad q.2)) := by
  refine ⟨hl.1, hl.2.1, fun q hq => hl.2.2 q ?_⟩
  obtain ⟨z, hz, rfl⟩ := List.mem_map.mp hq
  rcases h z hz with rfl | ⟨h1, h2, h3, h4⟩
  · exact List.mem_cons_self
  · refine List.mem_cons_of_mem _ (List.mem_filter.mpr ⟨List.mem_map.mpr ⟨z, h1, rfl⟩, ?_⟩)
    simp only [cz_cat]
    simp
    exact ⟨h2, h3, Classical.not_and_iff_not_or_not.mp h4⟩
end
section
def retB (ret : Option FieldType) (ins : Instr) : Bool := match ins with
  | .ireturn => decide (ret = some .int) || decide (ret = some .boolean)
  | .lreturn => decide (ret = some .long)
  | .freturn => decide (ret = some .float)
  | .dreturn => decide (ret = some .double)
  | .return_ => decide (ret = none)
  | _ => true
def locB (nL : Nat) (ins : Instr) : Bool := match ins with
  | .istore i => Nat.blt i nL
  | .astore i => Nat.blt i nL
  | .istore_n i => Nat.blt i.val nL
  | .astore_n i => Nat.blt i.val nL
  | .fstore_n i => Nat.blt i.val nL
  | .lstore i => Nat.blt (i + 1) nL
  | .lstore_n i => Nat.blt (i.val + 1) nL
  | .dstore_n i => Nat.blt (i.val + 1) nL
  | .iinc i _ => Nat.blt i nL
  | _ => true
section SND
variable {p : Program} {l : Launch} {e : Env} {R : Room} {s : State} {m : MethodId} {args : Array Value} {below : List Frame} {meth : Method} {c : Code} {Q : State → Prop} {cc : ByteArray} {nL : Nat} {own : String} {D : va_G} {cy : Nat → ClassId} {kd : KdT} {ad : Nat → Nat} {N : Nat} {E : List Value → IM → LM → Prop}
/-- the world's part of a read -/
theorem wd_obj {i ci a b : Nat} {I : IM} {L : LM} {H : Heap} (hC : Cx p s m args c cc nL own D cy kd ad N) (hW : wd D cy kd ad N I L H) (hk : kd i = (0, a, b)) : i < N ∧ va_P D vwCl [(ad i, .inr (a, fdv ad I L i 0 (FD a)))] H := by
  obtain ⟨-, -, -, -, -, -, -, hkd⟩ := hC
  have hi : i < N := hkd.1 i (by rw [hk]; exact Nat.zero_le 6)
  refine ⟨hi, fun k q hq => ?_⟩
  cases k with
  | zero =>
    cases hq
    have h := hW i hi
    unfold ctn at h
    rw [hk] at h
    simpa using h
  | succ k => simp at hq
theorem wd_arrI {i n b : Nat} {I : IM} {L : LM} {H : Heap} (hC : Cx p s m args c cc nL own D cy kd ad N) (hW : wd D cy kd ad N I L H) (hk : kd i = (1, n, b)) : i < N ∧ va_P D vwCl [(ad i, .inl (cy 0, n, .inl (I i)))] H := by
  obtain ⟨-, -, -, -, -, -, -, hkd⟩ := hC
  have hi : i < N := hkd.1 i (by rw [hk]; exact Nat.le_of_ble_eq_true rfl)
  refine ⟨hi, fun k q hq => ?_⟩
  cases k with
  | zero =>
    cases hq
    have h := hW i hi
    unfold ctn at h
    rw [hk] at h
    simpa using h
  | succ k => simp at hq
theorem wd_arrL {i n b : Nat} {I : IM} {L : LM} {H : Heap} (hC : Cx p s m args c cc nL own D cy kd ad N) (hW : wd D cy kd ad N I L H) (hk : kd i = (2, n, b)) : i < N ∧ va_P D vwCl [(ad i, .inl (cy 1, n, .inr (.inl (L i))))] H := by
  obtain ⟨-, -, -, -, -, -, -, hkd⟩ := hC
  have hi : i < N := hkd.1 i (by rw [hk]; exact Nat.le_of_ble_eq_true rfl)
  refine ⟨hi, fun k q hq => ?_⟩
  cases k with
  | zero =>
    cases hq
    have h := hW i hi
    unfold ctn at h
    rw [hk] at h
    simpa using h
  | succ k => simp at hq
theorem wd_arrZ {i n b : Nat} {I : IM} {L : LM} {H : Heap} (hC : Cx p s m args c cc nL own D cy kd ad N) (hW : wd D cy kd ad N I L H) (hk : kd i = (3, n, b)) : i < N ∧ va_P D vwCl [(ad i, .inl (cy 2, n, .inl (I i)))] H := by
  obtain ⟨-, -, -, -, -, -, -, hkd⟩ := hC
  have hi : i < N := hkd.1 i (by rw [hk]; exact Nat.le_of_ble_eq_true rfl)
  refine ⟨hi, fun k q hq => ?_⟩
  cases k with
  | zero =>
    cases hq
    have h := hW i hi
    unfold ctn at h
    rw [hk] at h
    simpa using h
  | succ k => simp at hq
theorem wd_arrQ {i t n b : Nat} {I : IM} {L : LM} {H : Heap} (hC : Cx p s m args c cc nL own D cy kd ad N) (hW : wd D cy kd ad N I L H) (h4 : 4 ≤ t) (h6 : t ≤ 6) (hk : kd i = (t, n, b)) : i < N ∧ H[ad i]? = some (arrV (cy (t - 1)) n (fun j => va_rf (if j < n then some (ad (i + 1 + j * b)) else none))) := by
  obtain ⟨-, -, -, -, -, -, -, hkd⟩ := hC
  have hi : i < N := hkd.1 i (by rw [hk]; exact h6)
  refine ⟨hi, ?_⟩
  have h := hW i hi
  unfold ctn at h
  rw [hk] at h
  simp only [show ¬ t = 0 by omega, show ¬ t = 1 by omega, show ¬ t = 2 by omega, show ¬ t = 3 by omega, if_false] at h
  exact h
theorem nI_vp {j n : Nat} (h : j < n) (hn : n < 2147483648) : vp_in (nI j) n := vp_in_nI h hn
theorem s_put {A : Nat → Prop} {H0 H H1 : Heap} {locs : List Loc} {a i : Nat} (h : va_S A H0 H locs) (z : H1.size = H.size) (oq : ∀ q : Nat, q ≠ a → H1[q]? = H[q]?) (ha : A a) : va_S A H0 H1 (locs ++ [⟨a, i⟩]) := h.put z oq ha


theorem iinc_row {H : Heap} {locs : List Loc} {cells slots : Nat} {pc : Nat} {ls : Array Slot} {rest : List Value} (hexec : p.tables.exec = Jvm.exec) (hb : c.code = cc) {i : Nat} {n : Int} {x : Int32} {lv : List (Nat × Value)} (hdg : decode cc pc = .ok (.iinc i n, 3)) (h : lv_has ls nL lv) (hg : ls[i]? = some (.val (.int x))) (hn : i < nL)
    (kk : ∀ ls' : Array Slot, lv_has ls' nL ((i, Value.int (x + Int32.ofInt n)) :: lv.filter (fun q => !(q.1 == i) && !(q.1 + 1 == i && q.2.category == 2))) → W p l e R s m args below meth c H locs cells slots Q (F0 m (pc + 3) ls' rest)) : W p l e R s m args below meth c H locs cells slots Q (F0 m pc ls rest) := by
  have h2 : lv_has ls nL ((i, .int x) :: lv) := ⟨h.1, h.2.1, fun q hq => by
    rcases List.mem_cons.mp hq with rfl | hq
    · exact hg
    · exact h.2.2 q hq⟩
  refine lv_iinc (k := 0) hexec hb hdg h2 rfl rfl hn rfl (fun ls1 hl1 => kk ls1 ?_)
  simpa using hl1
theorem aald_row {H : Heap} {locs : List Loc} {cells slots : Nat} {pc : Nat} {ls : Array Slot} {rest : List Value} {i t n b j : Nat} (hexec : p.tables.exec = Jvm.exec) (hb : c.code = cc) (hK : va_K D vwCl (tysC cy) s) (h4 : 4 ≤ t) (h6 : t ≤ 6) (hP : H[ad i]? = some (arrV (cy (t - 1)) n (fun j => va_rf (if j < n then some (ad (i + 1 + j * b)) else none)))) (hj : j < n) (hk2 : ∀ i, (kd i).2.1 < 2147483648) (hkd1 : kd i = (t, n, b)) (hdg : decode cc pc = .ok (.aaload, 1))
    (kk : W p l e R s m args below meth c H locs cells slots Q (F0 m (pc + 1) ls (.ref (ad (i + 1 + j * b)) :: rest))) : W p l e R s m args below meth c H locs cells slots Q (F0 m pc ls (.int (nI j) :: .ref (ad i) :: rest)) := by
  have hn := hk2 i
  rw [hkd1] at hn
  have hin := nI_vp hj hn
  have hcl : (nI j).toNatClampNeg = j := nI_clamp (Nat.lt_trans hj hn)
  obtain ⟨ty, hty, hr⟩ : ∃ ty : FieldType, (tysC cy)[t - 1]? = some (cy (t - 1), ty) ∧ ty.isReference = true := by
    rcases (show t = 4 ∨ t = 5 ∨ t = 6 by omega) with rfl | rfl | rfl <;> exact ⟨_, rfl, rfl⟩
  refine W.aald (v := .ref (ad (i + 1 + j * b))) hexec hb hP ((hK.2 (t - 1) _ hty).1 n _) hr (fun q => by cases q) (by show ¬ (nI j < 0 ∨ (arrV _ _ _).slots.size ≤ _); rw [arrV_size]; exact hin) (by show (arrV _ _ _).slots[_]? = _; rw [hcl, arrV_read _ _ hj, if_pos hj]; rfl) rfl rfl hdg kk
theorem aldI_row {H : Heap} {locs : List Loc} {cells slots : Nat} {pc : Nat} {ls : Array Slot} {rest : List Value} {I : IM} {L : LM} {i n b j : Nat} (hC : Cx p s m args c cc nL own D cy kd ad N) (hkd1 : kd i = (1, n, b)) (hj : j < n) (hW : wd D cy kd ad N I L H) (hdg : decode cc pc = .ok (.iaload, 1))
    (kk : W p l e R s m args below meth c H locs cells slots Q (F0 m (pc + 1) ls (.int (I i j) :: rest))) : W p l e R s m args below meth c H locs cells slots Q (F0 m pc ls (.int (nI j) :: .ref (ad i) :: rest)) := by
  obtain ⟨hlt, hP⟩ := wd_arrI hC hW hkd1
  have hn := hC.2.2.2.2.2.2.2.2 i
  rw [hkd1] at hn
  have hcl : (nI j).toNatClampNeg = j := nI_clamp (Nat.lt_trans hj hn)
  exact va_iald hC.1 hC.2.1 hC.2.2.2.2.2.1 hP 0 0 rfl rfl (nI_vp hj hn) hdg (by rw [hcl]; exact kk)
theorem aldL_row {H : Heap} {locs : List Loc} {cells slots : Nat} {pc : Nat} {ls : Array Slot} {rest : List Value} {I : IM} {L : LM} {i n b j : Nat} (hC : Cx p s m args c cc nL own D cy kd ad N) (hkd1 : kd i = (2, n, b)) (hj : j < n) (hW : wd D cy kd ad N I L H) (hdg : decode cc pc = .ok (.laload, 1))
    (kk : W p l e R s m args below meth c H locs cells slots Q (F0 m (pc + 1) ls (.long (L i j) :: rest))) : W p l e R s m args below meth c H locs cells slots Q (F0 m pc ls (.int (nI j) :: .ref (ad i) :: rest)) := by
  obtain ⟨hlt, hP⟩ := wd_arrL hC hW hkd1
  have hn := hC.2.2.2.2.2.2.2.2 i
  rw [hkd1] at hn
  have hcl : (nI j).toNatClampNeg = j := nI_clamp (Nat.lt_trans hj hn)
  exact va_lald hC.1 hC.2.1 hC.2.2.2.2.2.1 hP 0 1 rfl rfl (nI_vp hj hn) hdg (by rw [hcl]; exact kk)
theorem aldZ_row {H : Heap} {locs : List Loc} {cells slots : Nat} {pc : Nat} {ls : Array Slot} {rest : List Value} {I : IM} {L : LM} {i n b j : Nat} (hC : Cx p s m args c cc nL own D cy kd ad N) (hkd1 : kd i = (3, n, b)) (hj : j < n) (hW : wd D cy kd ad N I L H) (hdg : decode cc pc = .ok (.baload, 1))
    (kk : W p l e R s m args below meth c H locs cells slots Q (F0 m (pc + 1) ls (.int (I i j) :: rest))) : W p l e R s m args below meth c H locs cells slots Q (F0 m pc ls (.int (nI j) :: .ref (ad i) :: rest)) := by
  obtain ⟨hlt, hP⟩ := wd_arrZ hC hW hkd1
  have hn := hC.2.2.2.2.2.2.2.2 i
  rw [hkd1] at hn
  have hcl : (nI j).toNatClampNeg = j := nI_clamp (Nat.lt_trans hj hn)
  exact va_zald hC.1 hC.2.1 hC.2.2.2.2.2.1 hP 0 2 rfl rfl (nI_vp hj hn) hdg (by rw [hcl]; exact kk)
theorem astI_row {H : Heap} {locs : List Loc} {cells slots : Nat} {pc : Nat} {ls : Array Slot} {rest : List Value} {I : IM} {L : LM} {i n b j : Nat} {x : Int32} (hC : Cx p s m args c cc nL own D cy kd ad N) (hkd1 : kd i = (1, n, b)) (hj : j < n) (hW : wd D cy kd ad N I L H) (hS : va_S (AA ad N) s.heap H locs) (hdg : decode cc pc = .ok (.iastore, 1))
    (kk : ∀ H1 locs1, wd D cy kd ad N (mu I i j x) L H1 → va_S (AA ad N) s.heap H1 locs1 → W p l e R s m args below meth c H1 locs1 cells slots Q (F0 m (pc + 1) ls rest)) : W p l e R s m args below meth c H locs cells slots Q (F0 m pc ls (.int x :: .int (nI j) :: .ref (ad i) :: rest)) := by
  obtain ⟨hlt, hP⟩ := wd_arrI hC hW hkd1
  have hn := hC.2.2.2.2.2.2.2.2 i
  rw [hkd1] at hn
  have hin := nI_vp hj hn
  have hcl : (nI j).toNatClampNeg = j := nI_clamp (Nat.lt_trans hj hn)
  refine W.iast hC.1 hC.2.1 (hP 0 _ rfl) ((hC.2.2.2.2.2.1.2 0 _ rfl).1 n (fun j => .int (I i j))) (fun q => by cases q) (by show ¬ (nI j < 0 ∨ (arrV _ _ _).slots.size ≤ _); rw [arrV_size]; exact hin) rfl rfl hdg fun H1 e z oq => ?_
  refine kk H1 _ (wd_put hC.2.2.2.2.2.2.1 hW hlt ?_ oq (fun q hq => mu_ne _ _ hq) (fun _ _ => rfl)) (s_put hS z oq ⟨i, hlt, rfl⟩)
  have hct : ctn cy kd ad (mu I i j x) L i = .inl (cy 0, n, .inl (mu I i j x i)) := by
    unfold ctn
    rw [hkd1]
    rfl
  rw [hct]
  show H1[ad i]? = some (vp_cell _ _)
  rw [e, hcl]
  show some ((vp_cell (cy 0) (n, .inl (I i))).setSlot j (.int x)) = some (vp_cell (cy 0) (n, .inl (mu I i j x i)))
  rw [vp_cell_i, vp_cell_i, arrV_store]
  congr 2
  funext q
  by_cases hq : q = j
  · subst hq
    simp [updV, mu]
  · simp [updV, mu, hq]
theorem astL_row {H : Heap} {locs : List Loc} {cells slots : Nat} {pc : Nat} {ls : Array Slot} {rest : List Value} {I : IM} {L : LM} {i n b j : Nat} {x : Int64} (hC : Cx p s m args c cc nL own D cy kd ad N) (hkd1 : kd i = (2, n, b)) (hj : j < n) (hW : wd D cy kd ad N I L H) (hS : va_S (AA ad N) s.heap H locs) (hdg : decode cc pc = .ok (.lastore, 1))
    (kk : ∀ H1 locs1, wd D cy kd ad N I (mu L i j x) H1 → va_S (AA ad N) s.heap H1 locs1 → W p l e R s m args below meth c H1 locs1 cells slots Q (F0 m (pc + 1) ls rest)) : W p l e R s m args below meth c H locs cells slots Q (F0 m pc ls (.long x :: .int (nI j) :: .ref (ad i) :: rest)) := by
  obtain ⟨hlt, hP⟩ := wd_arrL hC hW hkd1
  have hn := hC.2.2.2.2.2.2.2.2 i
  rw [hkd1] at hn
  have hin := nI_vp hj hn
  have hcl : (nI j).toNatClampNeg = j := nI_clamp (Nat.lt_trans hj hn)
  refine W.last hC.1 hC.2.1 (hP 0 _ rfl) ((hC.2.2.2.2.2.1.2 1 _ rfl).1 n (fun j => .long (L i j))) (fun q => by cases q) (by show ¬ (nI j < 0 ∨ (arrV _ _ _).slots.size ≤ _); rw [arrV_size]; exact hin) rfl rfl hdg fun H1 e z oq => ?_
  refine kk H1 _ (wd_put hC.2.2.2.2.2.2.1 hW hlt ?_ oq (fun _ _ => rfl) (fun q hq => mu_ne _ _ hq)) (s_put hS z oq ⟨i, hlt, rfl⟩)
  have hct : ctn cy kd ad I (mu L i j x) i = .inl (cy 1, n, .inr (.inl (mu L i j x i))) := by
    unfold ctn
    rw [hkd1]
    rfl
  rw [hct]
  show H1[ad i]? = some (vp_cell _ _)
  rw [e, hcl]
  show some ((vp_cell (cy 1) (n, .inr (.inl (L i)))).setSlot j (.long x)) = some (vp_cell (cy 1) (n, .inr (.inl (mu L i j x i))))
  rw [vp_cell_l, vp_cell_l, arrV_store]
  congr 2
  funext q
  by_cases hq : q = j
  · subst hq
    simp [updV, mu]
  · simp [updV, mu, hq]
theorem astZ_row {H : Heap} {locs : List Loc} {cells slots : Nat} {pc : Nat} {ls : Array Slot} {rest : List Value} {I : IM} {L : LM} {i n b j : Nat} {x : Int32} (hC : Cx p s m args c cc nL own D cy kd ad N) (hkd1 : kd i = (3, n, b)) (hj : j < n) (h01 : x = 0 ∨ x = 1) (hW : wd D cy kd ad N I L H) (hS : va_S (AA ad N) s.heap H locs) (hdg : decode cc pc = .ok (.bastore, 1))
    (kk : ∀ H1 locs1, wd D cy kd ad N (mu I i j x) L H1 → va_S (AA ad N) s.heap H1 locs1 → W p l e R s m args below meth c H1 locs1 cells slots Q (F0 m (pc + 1) ls rest)) : W p l e R s m args below meth c H locs cells slots Q (F0 m pc ls (.int x :: .int (nI j) :: .ref (ad i) :: rest)) := by
  obtain ⟨hlt, hP⟩ := wd_arrZ hC hW hkd1
  have hn := hC.2.2.2.2.2.2.2.2 i
  rw [hkd1] at hn
  have hin := nI_vp hj hn
  have hcl : (nI j).toNatClampNeg = j := nI_clamp (Nat.lt_trans hj hn)
  have hnar : vp_nar .boolean x = x := by rcases h01 with rfl | rfl <;> decide
  refine W.zast hC.1 hC.2.1 (hP 0 _ rfl) ((hC.2.2.2.2.2.1.2 2 _ rfl).1 n (fun j => .int (I i j))) (fun q => by cases q) (by show ¬ (nI j < 0 ∨ (arrV _ _ _).slots.size ≤ _); rw [arrV_size]; exact hin) rfl rfl hdg fun H1 e z oq => ?_
  refine kk H1 _ (wd_put hC.2.2.2.2.2.2.1 hW hlt ?_ oq (fun q hq => mu_ne _ _ hq) (fun _ _ => rfl)) (s_put hS z oq ⟨i, hlt, rfl⟩)
  have hct : ctn cy kd ad (mu I i j x) L i = .inl (cy 2, n, .inl (mu I i j x i)) := by
    unfold ctn
    rw [hkd1]
    rfl
  rw [hct]
  show H1[ad i]? = some (vp_cell _ _)
  rw [e, hcl]
  have hnar2 : narrow .boolean (.int x) = .int x := by rcases h01 with rfl | rfl <;> decide
  show some ((vp_cell (cy 2) (n, .inl (I i))).setSlot j _) = some (vp_cell (cy 2) (n, .inl (mu I i j x i)))
  rw [hnar2, vp_cell_i, vp_cell_i, arrV_store]
  congr 2
  funext q
  by_cases hq : q = j
  · subst hq
    simp [updV, mu]
  · simp [updV, mu, hq]
theorem putI_row {F : Ft} {H : Heap} {locs : List Loc} {cells slots : Nat} {pc : Nat} {ls : Array Slot} {rest : List Value} {I : IM} {L : LM} {i ix ci j t off b : Nat} {x : Int32} (hC : Cx p s m args c cc nL own D cy kd ad N) (hF : FOK own F) (hf : F ix = some (ci, j, t, off)) (hkd1 : kd i = (0, ci, b)) (ht : (t = 0 ∧ x = x) ∨ (t = 3 ∧ (x = 0 ∨ x = 1))) (hW : wd D cy kd ad N I L H) (hS : va_S (AA ad N) s.heap H locs) (hdg : decode cc pc = .ok (.putfield ix, 3))
    (kk : ∀ H1 locs1, wd D cy kd ad N (mu I i j x) L H1 → va_S (AA ad N) s.heap H1 locs1 → W p l e R s m args below meth c H1 locs1 cells slots Q (F0 m (pc + 3) ls rest)) : W p l e R s m args below meth c H locs cells slots Q (F0 m pc ls (.int x :: .ref (ad i) :: rest)) := by
  obtain ⟨hlt, hP⟩ := wd_obj (ci := 0) hC hW hkd1
  obtain ⟨Cn, T, NF, ty0, f1, f2, f3, f4, f5, f6, f7, f8, f9, f10, f11, f12, f13⟩ := hF _ _ _ _ _ hf
  have hx := hC.1
  have hb := hC.2.1
  have hown := hC.2.2.2.1
  have hts := hC.2.2.2.2.1
  have hK := hC.2.2.2.2.2.1
  have hinj := hC.2.2.2.2.2.2.1
  have ht2 : t ≠ 1 ∧ t ≠ 2 := by rcases ht with ⟨rfl, -⟩ | ⟨rfl, -⟩ <;> decide
  have hnf : narrow (ty0 j) (.int x) = .int x ∧ fits (ty0 j) (.int x) = true := by
    rcases ht with ⟨rfl, -⟩ | ⟨rfl, h01⟩
    · rw [f11 rfl]; exact ⟨rfl, rfl⟩
    · rw [f13 rfl]; rcases h01 with rfl | rfl <;> exact ⟨by decide, by decide⟩
  have hap := va_apart (own := own) hts f3 ty0 f8 f9 hK f1
  obtain ⟨r, h1, cell, q1, q2, q3, q4⟩ := hP 0 _ rfl
  have hr : r = (Cn, T, NF) := Option.some.inj (h1.symm.trans f1)
  subst hr
  obtain ⟨hSl, hfc, kC, hkC, hkind⟩ := hK.1 ci _ f1
  obtain ⟨cf, kf, fi, f, hi, hsl⟩ := hSl j f2
  have hlay := hts _ (f3 _ (u_in_lay f2))
  unfold u_lay at hlay
  rw [if_neg (by rw [f10 ht2.2]; decide)] at hlay
  have hst := (u_facts hfc hkC (u_lays hts f3 f2) hi).1
  have h6 := u_store hfc hkC hkind hlay hi (f8 j f2) hnf.1 hnf.2
  refine W.putK hx hb (f := f) ⟨hown, hts _ f4, ⟨_, _, _, (by rw [← f5]; exact hi)⟩, hst⟩ (by rw [q2]; exact h6) q1 q3 (by rw [hsl]; exact k2_hasslot (q4 j f2)) rfl rfl hdg fun H1 e1 e2 e3 => ?_
  rw [hsl] at e1 ⊢
  refine kk H1 _ (wd_put hinj hW hlt ?_ e3 (fun q hq => mu_ne _ _ hq) (fun _ _ => rfl)) (s_put hS e2 e3 ⟨i, hlt, rfl⟩)
  have hset := fdv_setI ad I L i j x (FD ci) 0 j t off f6 ht2.1 ht2.2 (by omega)
  unfold ctn
  rw [hkd1]
  simp only [if_true]
  rw [hset]
  exact ⟨_, f1, t_OB.to (V := updV (vp_V (fdv ad I L i 0 (FD ci))) j (.int x)) ⟨_, e1, q2, q3, t_set q4 hap f2 (.int x)⟩ (fun j2 _ => vp_updV_set (by rw [fdv_len, f7]; exact f2) (.int x) j2)⟩
theorem putL_row {F : Ft} {H : Heap} {locs : List Loc} {cells slots : Nat} {pc : Nat} {ls : Array Slot} {rest : List Value} {I : IM} {L : LM} {i ix ci j off b : Nat} {x : Int64} (hC : Cx p s m args c cc nL own D cy kd ad N) (hF : FOK own F) (hf : F ix = some (ci, j, 1, off)) (hkd1 : kd i = (0, ci, b)) (hW : wd D cy kd ad N I L H) (hS : va_S (AA ad N) s.heap H locs) (hdg : decode cc pc = .ok (.putfield ix, 3))
    (kk : ∀ H1 locs1, wd D cy kd ad N I (mu L i j x) H1 → va_S (AA ad N) s.heap H1 locs1 → W p l e R s m args below meth c H1 locs1 cells slots Q (F0 m (pc + 3) ls rest)) : W p l e R s m args below meth c H locs cells slots Q (F0 m pc ls (.long x :: .ref (ad i) :: rest)) := by
  obtain ⟨hlt, hP⟩ := wd_obj (ci := 0) hC hW hkd1
  obtain ⟨Cn, T, NF, ty0, f1, f2, f3, f4, f5, f6, f7, f8, f9, f10, f11, f12, f13⟩ := hF _ _ _ _ _ hf
  have hx := hC.1
  have hb := hC.2.1
  have hown := hC.2.2.2.1
  have hts := hC.2.2.2.2.1
  have hK := hC.2.2.2.2.2.1
  have hinj := hC.2.2.2.2.2.2.1
  have hnf : narrow (ty0 j) (.long x) = .long x ∧ fits (ty0 j) (.long x) = true := by
    rw [f12 rfl]; exact ⟨rfl, rfl⟩
  have hap := va_apart (own := own) hts f3 ty0 f8 f9 hK f1
  obtain ⟨r, h1, cell, q1, q2, q3, q4⟩ := hP 0 _ rfl
  have hr : r = (Cn, T, NF) := Option.some.inj (h1.symm.trans f1)
  subst hr
  obtain ⟨hSl, hfc, kC, hkC, hkind⟩ := hK.1 ci _ f1
  obtain ⟨cf, kf, fi, f, hi, hsl⟩ := hSl j f2
  have hlay := hts _ (f3 _ (u_in_lay f2))
  unfold u_lay at hlay
  rw [if_neg (by rw [f10 (by decide)]; decide)] at hlay
  have hst := (u_facts hfc hkC (u_lays hts f3 f2) hi).1
  have h6 := u_store hfc hkC hkind hlay hi (f8 j f2) hnf.1 hnf.2
  refine W.putK hx hb (f := f) ⟨hown, hts _ f4, ⟨_, _, _, (by rw [← f5]; exact hi)⟩, hst⟩ (by rw [q2]; exact h6) q1 q3 (by rw [hsl]; exact k2_hasslot (q4 j f2)) rfl rfl hdg fun H1 e1 e2 e3 => ?_
  rw [hsl] at e1 ⊢
  refine kk H1 _ (wd_put hinj hW hlt ?_ e3 (fun _ _ => rfl) (fun q hq => mu_ne _ _ hq)) (s_put hS e2 e3 ⟨i, hlt, rfl⟩)
  have hset := fdv_setL ad I L i j x (FD ci) 0 j off f6 (by omega)
  unfold ctn
  rw [hkd1]
  simp only [if_true]
  rw [hset]
  exact ⟨_, f1, t_OB.to (V := updV (vp_V (fdv ad I L i 0 (FD ci))) j (.long x)) ⟨_, e1, q2, q3, t_set q4 hap f2 (.long x)⟩ (fun j2 _ => vp_updV_set (by rw [fdv_len, f7]; exact f2) (.long x) j2)⟩
set_option maxHeartbeats 4000000 in
theorem stp_ok {F : Ft} {k : Kt} (hC : Cx p s m args c cc nL own D cy kd ad N) (hF : FOK own F)
    {ret : Option FieldType} (hret : ∀ (pc : Nat) (ins : Instr) (lv : LV) (st : List Value) (I : IM) (L : LM), decode cc pc = .ok (ins, 1) → retB ret ins = true → ((ins = .ireturn ∧ ∃ x, st = [.int x]) ∨ (ins = .lreturn ∧ ∃ x, st = [.long x]) ∨ (ins = .freturn ∧ ∃ x, st = [.float x]) ∨ (ins = .dreturn ∧ ∃ x, st = [.double x]) ∨ (ins = .return_ ∧ st = [])) → E st I L → VV p l e R s m args below meth c Q nL D cy kd ad N pc lv st I L)
    (hk : ∀ ds O pc lv st I L, pc < RET → Res (VV p l e R s m args below meth c Q nL D cy kd ad N) E O (k ds O pc lv st I L) (VV p l e R s m args below meth c Q nL D cy kd ad N pc lv st I L))
    {ins : Instr} {pc np tg : Nat} {cv : Value} (hi : InsOK cc own pc ins np tg cv) (hloc : locB nL ins = true) (hrb : retB ret ins = true) (ds : List (Nat × Nat)) (O : Prop) (lv : LV) (st : List Value) (I : IM) (L : LM) :
    Res (VV p l e R s m args below meth c Q nL D cy kd ad N) E O (stp kd F k ins np tg cv ds O pc lv st I L) (VV p l e R s m args below meth c Q nL D cy kd ad N pc lv st I L) := by
  obtain ⟨hd, hnp, hbt, hcv, hpc, hnr, htr⟩ := hi
  have hx := hC.1
  have hb := hC.2.1
  have hown := hC.2.2.2.1
  have hts := hC.2.2.2.2.1
  have hK := hC.2.2.2.2.2.1
  have hinj := hC.2.2.2.2.2.2.1
  have hkd := hC.2.2.2.2.2.2.2
  cases ins with
  | iconst n =>
    simp only [cvB, decide_eq_true_eq] at hcv
    subst hnp
    subst hcv
    exact res_pl (hk _ _ _ _ _ _ _ hnr) (fun hv H locs ls hW hS hl => lv_iconst hx hb hd rfl (hv H locs ls hW hS hl))
  | bipush n =>
    simp only [cvB, decide_eq_true_eq] at hcv
    subst hnp
    subst hcv
    exact res_pl (hk _ _ _ _ _ _ _ hnr) (fun hv H locs ls hW hS hl => lv_bipush hx hb hd rfl (hv H locs ls hW hS hl))
  | sipush n =>
    simp only [cvB, decide_eq_true_eq] at hcv
    subst hnp
    subst hcv
    exact res_pl (hk _ _ _ _ _ _ _ hnr) (fun hv H locs ls hW hS hl => lv_sipush hx hb hd rfl (hv H locs ls hW hS hl))
  | lconst n =>
    simp only [cvB, decide_eq_true_eq] at hcv
    subst hnp
    subst hcv
    exact res_pl (hk _ _ _ _ _ _ _ hnr) (fun hv H locs ls hW hS hl => lv_lconst hx hb hd rfl (hv H locs ls hW hS hl))
  | fconst n =>
    simp only [cvB, Bool.or_eq_true, decide_eq_true_eq] at hcv
    subst hnp
    rcases hcv with (⟨rfl, rfl⟩ | ⟨rfl, rfl⟩) | ⟨rfl, rfl⟩
    · exact res_pl (hk _ _ _ _ _ _ _ hnr) (fun hv H locs ls hW hS hl => lv_fconst0 hx hb hd (hv H locs ls hW hS hl))
    · exact res_pl (hk _ _ _ _ _ _ _ hnr) (fun hv H locs ls hW hS hl => lv_fconst1 hx hb hd (hv H locs ls hW hS hl))
    · exact res_pl (hk _ _ _ _ _ _ _ hnr) (fun hv H locs ls hW hS hl => lv_fconst2 hx hb hd (hv H locs ls hW hS hl))
  | dconst n =>
    simp only [cvB, Bool.or_eq_true, decide_eq_true_eq] at hcv
    subst hnp
    rcases hcv with ⟨rfl, rfl⟩ | ⟨rfl, rfl⟩
    · exact res_pl (hk _ _ _ _ _ _ _ hnr) (fun hv H locs ls hW hS hl => lv_dconst0 hx hb hd (hv H locs ls hW hS hl))
    · exact res_pl (hk _ _ _ _ _ _ _ hnr) (fun hv H locs ls hW hS hl => lv_dconst1 hx hb hd (hv H locs ls hW hS hl))
  | ldc ix =>
    subst hnp
    cases cv with
    | int v =>
      simp only [cvB, decide_eq_true_eq] at hcv
      exact res_pl (hk _ _ _ _ _ _ _ hnr) (fun hv H locs ls hW hS hl => lv_ldc hx hb hown (hts _ hcv) hd (hv H locs ls hW hS hl))
    | float v =>
      simp only [cvB, decide_eq_true_eq] at hcv
      exact res_pl (hk _ _ _ _ _ _ _ hnr) (fun hv H locs ls hW hS hl => lv_ldcf hx hb hown (hts _ hcv) hd (hv H locs ls hW hS hl))
    | _ => simp [cvB] at hcv
  | ldc_w ix =>
    subst hnp
    cases cv with
    | int v =>
      simp only [cvB, decide_eq_true_eq] at hcv
      exact res_pl (hk _ _ _ _ _ _ _ hnr) (fun hv H locs ls hW hS hl => lv_ldcw hx hb hown (hts _ hcv) hd (hv H locs ls hW hS hl))
    | _ => simp [cvB] at hcv
  | ldc2_w ix =>
    subst hnp
    cases cv with
    | long v =>
      simp only [cvB, decide_eq_true_eq] at hcv
      exact res_pl (hk _ _ _ _ _ _ _ hnr) (fun hv H locs ls hW hS hl => lv_ldc2 hx hb hown (hts _ hcv) hd (hv H locs ls hW hS hl))
    | double v =>
      simp only [cvB, decide_eq_true_eq] at hcv
      exact res_pl (hk _ _ _ _ _ _ _ hnr) (fun hv H locs ls hW hS hl => lv_ldc2d hx hb hown (hts _ hcv) hd (hv H locs ls hW hS hl))
    | _ => simp [cvB] at hcv
  | iload i =>
    subst hnp
    simp only [stp]
    split
    · next x hg => exact res_pl (hk _ _ _ _ _ _ _ hnr) (fun hv H locs ls hW hS hl => lv_iload hx hb hd (gl_get (nL := nL) hg hl.2.2) (hv H locs ls hW hS hl))
    · exact res_stuck hpc
  | lload i =>
    subst hnp
    simp only [stp]
    split
    · next x hg => exact res_pl (hk _ _ _ _ _ _ _ hnr) (fun hv H locs ls hW hS hl => lv_lload hx hb hd (gl_get (nL := nL) hg hl.2.2) (hv H locs ls hW hS hl))
    · exact res_stuck hpc
  | aload i =>
    subst hnp
    simp only [stp]
    split
    · next x hg => exact res_pl (hk _ _ _ _ _ _ _ hnr) (fun hv H locs ls hW hS hl => lv_aload hx hb hd (gl_get (nL := nL) hg hl.2.2) (hv H locs ls hW hS hl))
    · exact res_stuck hpc
  | iload_n i =>
    subst hnp
    simp only [stp]
    split
    · next x hg => exact res_pl (hk _ _ _ _ _ _ _ hnr) (fun hv H locs ls hW hS hl => lv_iload_n hx hb hd rfl (gl_get (nL := nL) hg hl.2.2) (hv H locs ls hW hS hl))
    · exact res_stuck hpc
  | lload_n i =>
    subst hnp
    simp only [stp]
    split
    · next x hg => exact res_pl (hk _ _ _ _ _ _ _ hnr) (fun hv H locs ls hW hS hl => lv_lload_n hx hb hd rfl (gl_get (nL := nL) hg hl.2.2) (hv H locs ls hW hS hl))
    · exact res_stuck hpc
  | fload_n i =>
    subst hnp
    simp only [stp]
    split
    · next x hg => exact res_pl (hk _ _ _ _ _ _ _ hnr) (fun hv H locs ls hW hS hl => lv_fload_n hx hb hd rfl (gl_get (nL := nL) hg hl.2.2) (hv H locs ls hW hS hl))
    · exact res_stuck hpc
  | dload_n i =>
    subst hnp
    simp only [stp]
    split
    · next x hg => exact res_pl (hk _ _ _ _ _ _ _ hnr) (fun hv H locs ls hW hS hl => lv_dload_n hx hb hd rfl (gl_get (nL := nL) hg hl.2.2) (hv H locs ls hW hS hl))
    · exact res_stuck hpc
  | aload_n i =>
    subst hnp
    simp only [stp]
    split
    · next x hg => exact res_pl (hk _ _ _ _ _ _ _ hnr) (fun hv H locs ls hW hS hl => lv_aload_n hx hb hd rfl (gl_get (nL := nL) hg hl.2.2) (hv H locs ls hW hS hl))
    · exact res_stuck hpc
  | istore i =>
    subst hnp
    simp only [stp]
    split
    · obtain ⟨lv1, e1, e2⟩ := sl1_ok _ _ lv _
      rw [e1]
      refine res_pl (hk _ _ _ _ _ _ _ hnr) (fun hv H locs ls hW hS hl => lv_istore hx hb hd hl (by simpa [locB] using hloc) rfl (fun ls1 hl1 => hv H locs ls1 hW hS (lvOK1_has (ad := ad) e2 hl1)))
    · exact res_stuck hpc
  | astore i =>
    subst hnp
    simp only [stp]
    split
    · obtain ⟨lv1, e1, e2⟩ := sl1_ok _ _ lv _
      rw [e1]
      refine res_pl (hk _ _ _ _ _ _ _ hnr) (fun hv H locs ls hW hS hl => lv_astore hx hb hd hl (by simpa [locB] using hloc) rfl (fun ls1 hl1 => hv H locs ls1 hW hS (lvOK1_has (ad := ad) e2 hl1)))
    · exact res_stuck hpc
  | istore_n i =>
    subst hnp
    simp only [stp]
    split
    · obtain ⟨lv1, e1, e2⟩ := sl1_ok _ _ lv _
      rw [e1]
      refine res_pl (hk _ _ _ _ _ _ _ hnr) (fun hv H locs ls hW hS hl => lv_istore_n hx hb hd rfl hl (by simpa [locB] using hloc) rfl (fun ls1 hl1 => hv H locs ls1 hW hS (lvOK1_has (ad := ad) e2 hl1)))
    · exact res_stuck hpc
  | astore_n i =>
    subst hnp
    simp only [stp]
    split
    · obtain ⟨lv1, e1, e2⟩ := sl1_ok _ _ lv _
      rw [e1]
      refine res_pl (hk _ _ _ _ _ _ _ hnr) (fun hv H locs ls hW hS hl => lv_astore_n hx hb hd rfl hl (by simpa [locB] using hloc) rfl (fun ls1 hl1 => hv H locs ls1 hW hS (lvOK1_has (ad := ad) e2 hl1)))
    · exact res_stuck hpc
  | fstore_n i =>
    subst hnp
    simp only [stp]
    split
    · obtain ⟨lv1, e1, e2⟩ := sl1_ok _ _ lv _
      rw [e1]
      refine res_pl (hk _ _ _ _ _ _ _ hnr) (fun hv H locs ls hW hS hl => lv_fstore_n hx hb hd rfl hl (by simpa [locB] using hloc) rfl (fun ls1 hl1 => hv H locs ls1 hW hS (lvOK1_has (ad := ad) e2 hl1)))
    · exact res_stuck hpc
  | lstore i =>
    subst hnp
    simp only [stp]
    split
    · obtain ⟨lv1, e1, e2⟩ := sl2_ok _ _ lv _
      rw [e1]
      refine res_pl (hk _ _ _ _ _ _ _ hnr) (fun hv H locs ls hW hS hl => lv_lstore hx hb hd hl (by simpa [locB] using hloc) rfl (fun ls1 hl1 => hv H locs ls1 hW hS (lvOK2_has (ad := ad) e2 hl1)))
    · exact res_stuck hpc
  | lstore_n i =>
    subst hnp
    simp only [stp]
    split
    · obtain ⟨lv1, e1, e2⟩ := sl2_ok _ _ lv _
      rw [e1]
      refine res_pl (hk _ _ _ _ _ _ _ hnr) (fun hv H locs ls hW hS hl => lv_lstore_n hx hb hd rfl hl (by simpa [locB] using hloc) rfl (fun ls1 hl1 => hv H locs ls1 hW hS (lvOK2_has (ad := ad) e2 hl1)))
    · exact res_stuck hpc
  | dstore_n i =>
    subst hnp
    simp only [stp]
    split
    · obtain ⟨lv1, e1, e2⟩ := sl2_ok _ _ lv _
      rw [e1]
      refine res_pl (hk _ _ _ _ _ _ _ hnr) (fun hv H locs ls hW hS hl => lv_dstore_n hx hb hd rfl hl (by simpa [locB] using hloc) rfl (fun ls1 hl1 => hv H locs ls1 hW hS (lvOK2_has (ad := ad) e2 hl1)))
    · exact res_stuck hpc
  | iinc i n =>
    subst hnp
    simp only [cvB, decide_eq_true_eq] at hcv
    subst hcv
    simp only [stp]
    split
    · next x hg =>
      obtain ⟨lv1, e1, e2⟩ := sl1_ok i (.int (x + Int32.ofInt n)) lv (fun lv1 => k ds O (pc + ilen (.iinc i n)) lv1 st I L)
      rw [e1]
      refine res_pl (hk _ _ _ _ _ _ _ hnr) (fun hv H locs ls hW hS hl => iinc_row hx hb hd hl (gl_get (nL := nL) hg hl.2.2) (by simpa [locB] using hloc) (fun ls1 hl1 => hv H locs ls1 hW hS (lvOK1_has (ad := ad) e2 hl1)))
    · exact res_stuck hpc
  | iadd =>
    subst hnp
    simp only [stp]
    split
    · exact res_pl (hk _ _ _ _ _ _ _ hnr) (fun hv H locs ls hW hS hl => lv_iadd hx hb hd (hv H locs ls hW hS hl))
    · exact res_stuck hpc
  | isub =>
    subst hnp
    simp only [stp]
    split
    · exact res_pl (hk _ _ _ _ _ _ _ hnr) (fun hv H locs ls hW hS hl => lv_isub hx hb hd (hv H locs ls hW hS hl))
    · exact res_stuck hpc
  | imul =>
    subst hnp
    simp only [stp]
    split
    · exact res_pl (hk _ _ _ _ _ _ _ hnr) (fun hv H locs ls hW hS hl => lv_imul hx hb hd (hv H locs ls hW hS hl))
    · exact res_stuck hpc
  | iand =>
    subst hnp
    simp only [stp]
    split
    · exact res_pl (hk _ _ _ _ _ _ _ hnr) (fun hv H locs ls hW hS hl => lv_iand hx hb hd (hv H locs ls hW hS hl))
    · exact res_stuck hpc
  | ior =>
    subst hnp
    simp only [stp]
    split
    · exact res_pl (hk _ _ _ _ _ _ _ hnr) (fun hv H locs ls hW hS hl => lv_ior hx hb hd (hv H locs ls hW hS hl))
    · exact res_stuck hpc
  | ixor =>
    subst hnp
    simp only [stp]
    split
    · exact res_pl (hk _ _ _ _ _ _ _ hnr) (fun hv H locs ls hW hS hl => lv_ixor hx hb hd (hv H locs ls hW hS hl))
    · exact res_stuck hpc
  | ishl =>
    subst hnp
    simp only [stp]
    split
    · exact res_pl (hk _ _ _ _ _ _ _ hnr) (fun hv H locs ls hW hS hl => lv_ishl hx hb hd (hv H locs ls hW hS hl))
    · exact res_stuck hpc
  | ishr =>
    subst hnp
    simp only [stp]
    split
    · exact res_pl (hk _ _ _ _ _ _ _ hnr) (fun hv H locs ls hW hS hl => lv_ishr hx hb hd (hv H locs ls hW hS hl))
    · exact res_stuck hpc
  | ineg =>
    subst hnp
    simp only [stp]
    split
    · exact res_pl (hk _ _ _ _ _ _ _ hnr) (fun hv H locs ls hW hS hl => lv_ineg hx hb hd (hv H locs ls hW hS hl))
    · exact res_stuck hpc
  | ladd =>
    subst hnp
    simp only [stp]
    split
    · exact res_pl (hk _ _ _ _ _ _ _ hnr) (fun hv H locs ls hW hS hl => lv_ladd hx hb hd (hv H locs ls hW hS hl))
    · exact res_stuck hpc
  | lsub =>
    subst hnp
    simp only [stp]
    split
    · exact res_pl (hk _ _ _ _ _ _ _ hnr) (fun hv H locs ls hW hS hl => lv_lsub hx hb hd (hv H locs ls hW hS hl))
    · exact res_stuck hpc
  | lmul =>
    subst hnp
    simp only [stp]
    split
    · exact res_pl (hk _ _ _ _ _ _ _ hnr) (fun hv H locs ls hW hS hl => lv_lmul hx hb hd (hv H locs ls hW hS hl))
    · exact res_stuck hpc
  | lneg =>
    subst hnp
    simp only [stp]
    split
    · exact res_pl (hk _ _ _ _ _ _ _ hnr) (fun hv H locs ls hW hS hl => lv_lneg hx hb hd (hv H locs ls hW hS hl))
    · exact res_stuck hpc
  | i2f =>
    subst hnp
    simp only [stp]
    split
    · exact res_pl (hk _ _ _ _ _ _ _ hnr) (fun hv H locs ls hW hS hl => lv_i2f hx hb hd (hv H locs ls hW hS hl))
    · exact res_stuck hpc
  | i2d =>
    subst hnp
    simp only [stp]
    split
    · exact res_pl (hk _ _ _ _ _ _ _ hnr) (fun hv H locs ls hW hS hl => lv_i2d hx hb hd (hv H locs ls hW hS hl))
    · exact res_stuck hpc
  | l2d =>
    subst hnp
    simp only [stp]
    split
    · exact res_pl (hk _ _ _ _ _ _ _ hnr) (fun hv H locs ls hW hS hl => lv_l2d hx hb hd (hv H locs ls hW hS hl))
    · exact res_stuck hpc
  | f2i =>
    subst hnp
    simp only [stp]
    split
    · exact res_pl (hk _ _ _ _ _ _ _ hnr) (fun hv H locs ls hW hS hl => lv_f2i hx hb hd (hv H locs ls hW hS hl))
    · exact res_stuck hpc
  | d2l =>
    subst hnp
    simp only [stp]
    split
    · exact res_pl (hk _ _ _ _ _ _ _ hnr) (fun hv H locs ls hW hS hl => lv_d2l hx hb hd (hv H locs ls hW hS hl))
    · exact res_stuck hpc
  | iushr =>
    subst hnp
    simp only [stp]
    split
    · exact res_pl (hk _ _ _ _ _ _ _ hnr) (fun hv H locs ls hW hS hl => lv_iushr hx hb hd rfl (hv H locs ls hW hS hl))
    · exact res_stuck hpc
  | lshl =>
    subst hnp
    simp only [stp]
    split
    · exact res_pl (hk _ _ _ _ _ _ _ hnr) (fun hv H locs ls hW hS hl => lv_lshl hx hb hd rfl (hv H locs ls hW hS hl))
    · exact res_stuck hpc
  | i2l =>
    subst hnp
    simp only [stp]
    split
    · exact res_pl (hk _ _ _ _ _ _ _ hnr) (fun hv H locs ls hW hS hl => lv_i2l hx hb hd rfl (hv H locs ls hW hS hl))
    · exact res_stuck hpc
  | l2i =>
    subst hnp
    simp only [stp]
    split
    · exact res_pl (hk _ _ _ _ _ _ _ hnr) (fun hv H locs ls hW hS hl => lv_l2i hx hb hd rfl (hv H locs ls hW hS hl))
    · exact res_stuck hpc
  | idiv =>
    subst hnp
    simp only [stp]
    split
    · exact res_ob (hk _ _ _ _ _ _ _ hnr) (fun ho hv H locs ls hW hS hl => lv_idiv hx hb hd ho (hv H locs ls hW hS hl))
    · exact res_stuck hpc
  | irem =>
    subst hnp
    simp only [stp]
    split
    · exact res_ob (hk _ _ _ _ _ _ _ hnr) (fun ho hv H locs ls hW hS hl => lv_irem hx hb hd ho (hv H locs ls hW hS hl))
    · exact res_stuck hpc
  | ldiv =>
    subst hnp
    simp only [stp]
    split
    · exact res_ob (hk _ _ _ _ _ _ _ hnr) (fun ho hv H locs ls hW hS hl => lv_ldiv hx hb hd ho (hv H locs ls hW hS hl))
    · exact res_stuck hpc
  | lrem =>
    subst hnp
    simp only [stp]
    split
    · exact res_ob (hk _ _ _ _ _ _ _ hnr) (fun ho hv H locs ls hW hS hl => lv_lrem hx hb hd ho (hv H locs ls hW hS hl))
    · exact res_stuck hpc
  | fsub =>
    subst hnp
    simp only [stp]
    split
    · exact res_ob (hk _ _ _ _ _ _ _ hnr) (fun ho hv H locs ls hW hS hl => lv_fsub hx hb hd ho (hv H locs ls hW hS hl))
    · exact res_stuck hpc
  | fmul =>
    subst hnp
    simp only [stp]
    split
    · exact res_ob (hk _ _ _ _ _ _ _ hnr) (fun ho hv H locs ls hW hS hl => lv_fmul hx hb hd ho (hv H locs ls hW hS hl))
    · exact res_stuck hpc
  | fdiv =>
    subst hnp
    simp only [stp]
    split
    · exact res_ob (hk _ _ _ _ _ _ _ hnr) (fun ho hv H locs ls hW hS hl => lv_fdiv hx hb hd ho (hv H locs ls hW hS hl))
    · exact res_stuck hpc
  | dsub =>
    subst hnp
    simp only [stp]
    split
    · exact res_ob (hk _ _ _ _ _ _ _ hnr) (fun ho hv H locs ls hW hS hl => lv_dsub hx hb hd ho (hv H locs ls hW hS hl))
    · exact res_stuck hpc
  | dmul =>
    subst hnp
    simp only [stp]
    split
    · exact res_ob (hk _ _ _ _ _ _ _ hnr) (fun ho hv H locs ls hW hS hl => lv_dmul hx hb hd ho (hv H locs ls hW hS hl))
    · exact res_stuck hpc
  | ddiv =>
    subst hnp
    simp only [stp]
    split
    · exact res_ob (hk _ _ _ _ _ _ _ hnr) (fun ho hv H locs ls hW hS hl => lv_ddiv hx hb hd ho (hv H locs ls hW hS hl))
    · exact res_stuck hpc
  | lcmp =>
    subst hnp
    simp only [stp]
    split
    · exact res_pl (hk _ _ _ _ _ _ _ hnr) (fun hv H locs ls hW hS hl => W.lcmp hx hb hd (hv H locs ls hW hS hl))
    · exact res_stuck hpc
  | fcmp op =>
    subst hnp
    simp only [stp]
    split
    · exact res_pl (hk _ _ _ _ _ _ _ hnr) (fun hv H locs ls hW hS hl => lv_fcmp hx hb hd (hv H locs ls hW hS hl))
    · exact res_stuck hpc
  | dcmp op =>
    subst hnp
    simp only [stp]
    split
    · exact res_pl (hk _ _ _ _ _ _ _ hnr) (fun hv H locs ls hW hS hl => lv_dcmp hx hb hd (hv H locs ls hW hS hl))
    · exact res_stuck hpc
  | dup =>
    subst hnp
    simp only [stp]
    split
    · exact res_pl (hk _ _ _ _ _ _ _ hnr) (fun hv H locs ls hW hS hl => lv_dup hx hb hd rfl (hv H locs ls hW hS hl))
    · exact res_pl (hk _ _ _ _ _ _ _ hnr) (fun hv H locs ls hW hS hl => lv_dup hx hb hd rfl (hv H locs ls hW hS hl))
    · exact res_stuck hpc
  | dup2 =>
    subst hnp
    simp only [stp]
    split
    · exact res_pl (hk _ _ _ _ _ _ _ hnr) (fun hv H locs ls hW hS hl => lv_dup2_11 hx hb hd rfl rfl (hv H locs ls hW hS hl))
    · exact res_stuck hpc
  | goto off =>
    simp only [btB, decide_eq_true_eq] at hbt
    exact res_pl (hk _ _ _ _ _ _ _ htr) (fun hv H locs ls hW hS hl => lv_goto hx hb hd hbt (hv H locs ls hW hS hl))
  | ifCond cond off =>
    subst hnp
    simp only [btB, decide_eq_true_eq] at hbt
    cases cond with
    | eq =>
      simp only [stp]
      split
      · exact res_br hpc (fun ds O pc h => hk _ _ _ _ _ _ _ h) hnr htr (fun ho hv H locs ls hW hS hl => lv_if_eq hx hb hd hbt (fun _ => hv H locs ls hW hS hl) (fun hn => absurd ho hn)) (fun ho hv H locs ls hW hS hl => lv_if_eq hx hb hd hbt (fun hn => absurd hn ho) (fun _ => hv H locs ls hW hS hl))
      · exact res_stuck hpc
    | ne =>
      simp only [stp]
      split
      · exact res_br hpc (fun ds O pc h => hk _ _ _ _ _ _ _ h) hnr htr (fun ho hv H locs ls hW hS hl => lv_if_ne hx hb hd hbt (fun _ => hv H locs ls hW hS hl) (fun hn => absurd hn ho)) (fun ho hv H locs ls hW hS hl => lv_if_ne hx hb hd hbt (fun hn => absurd hn ho) (fun _ => hv H locs ls hW hS hl))
      · exact res_stuck hpc
    | lt =>
      simp only [stp]
      split
      · exact res_br hpc (fun ds O pc h => hk _ _ _ _ _ _ _ h) hnr htr (fun ho hv H locs ls hW hS hl => lv_if_lt hx hb hd hbt (fun _ => hv H locs ls hW hS hl) (fun hn => absurd ho hn)) (fun ho hv H locs ls hW hS hl => lv_if_lt hx hb hd hbt (fun hn => absurd hn ho) (fun _ => hv H locs ls hW hS hl))
      · exact res_stuck hpc
    | ge =>
      simp only [stp]
      split
      · exact res_br hpc (fun ds O pc h => hk _ _ _ _ _ _ _ h) hnr htr (fun ho hv H locs ls hW hS hl => lv_if_ge hx hb hd hbt (fun _ => hv H locs ls hW hS hl) (fun hn => absurd ho hn)) (fun ho hv H locs ls hW hS hl => lv_if_ge hx hb hd hbt (fun hn => absurd hn ho) (fun _ => hv H locs ls hW hS hl))
      · exact res_stuck hpc
    | gt =>
      simp only [stp]
      split
      · exact res_br hpc (fun ds O pc h => hk _ _ _ _ _ _ _ h) hnr htr (fun ho hv H locs ls hW hS hl => lv_if_gt hx hb hd hbt (fun _ => hv H locs ls hW hS hl) (fun hn => absurd ho hn)) (fun ho hv H locs ls hW hS hl => lv_if_gt hx hb hd hbt (fun hn => absurd hn ho) (fun _ => hv H locs ls hW hS hl))
      · exact res_stuck hpc
    | le =>
      simp only [stp]
      split
      · exact res_br hpc (fun ds O pc h => hk _ _ _ _ _ _ _ h) hnr htr (fun ho hv H locs ls hW hS hl => lv_if_le hx hb hd hbt (fun _ => hv H locs ls hW hS hl) (fun hn => absurd ho hn)) (fun ho hv H locs ls hW hS hl => lv_if_le hx hb hd hbt (fun hn => absurd hn ho) (fun _ => hv H locs ls hW hS hl))
      · exact res_stuck hpc
  | if_icmp cond off =>
    subst hnp
    simp only [btB, decide_eq_true_eq] at hbt
    cases cond with
    | eq =>
      simp only [stp]
      split
      · exact res_br hpc (fun ds O pc h => hk _ _ _ _ _ _ _ h) hnr htr (fun ho hv H locs ls hW hS hl => lv_icmp_eq hx hb hd hbt (fun _ => hv H locs ls hW hS hl) (fun hn => absurd ho hn)) (fun ho hv H locs ls hW hS hl => lv_icmp_eq hx hb hd hbt (fun hn => absurd hn ho) (fun _ => hv H locs ls hW hS hl))
      · exact res_stuck hpc
    | ne =>
      simp only [stp]
      split
      · exact res_br hpc (fun ds O pc h => hk _ _ _ _ _ _ _ h) hnr htr (fun ho hv H locs ls hW hS hl => lv_icmp_ne hx hb hd hbt (fun _ => hv H locs ls hW hS hl) (fun hn => absurd hn ho)) (fun ho hv H locs ls hW hS hl => lv_icmp_ne hx hb hd hbt (fun hn => absurd hn ho) (fun _ => hv H locs ls hW hS hl))
      · exact res_stuck hpc
    | lt =>
      simp only [stp]
      split
      · exact res_br hpc (fun ds O pc h => hk _ _ _ _ _ _ _ h) hnr htr (fun ho hv H locs ls hW hS hl => lv_icmp_lt hx hb hd hbt (fun _ => hv H locs ls hW hS hl) (fun hn => absurd ho hn)) (fun ho hv H locs ls hW hS hl => lv_icmp_lt hx hb hd hbt (fun hn => absurd hn ho) (fun _ => hv H locs ls hW hS hl))
      · exact res_stuck hpc
    | ge =>
      simp only [stp]
      split
      · exact res_br hpc (fun ds O pc h => hk _ _ _ _ _ _ _ h) hnr htr (fun ho hv H locs ls hW hS hl => lv_icmp_ge hx hb hd hbt (fun _ => hv H locs ls hW hS hl) (fun hn => absurd ho hn)) (fun ho hv H locs ls hW hS hl => lv_icmp_ge hx hb hd hbt (fun hn => absurd hn ho) (fun _ => hv H locs ls hW hS hl))
      · exact res_stuck hpc
    | gt =>
      simp only [stp]
      split
      · exact res_br hpc (fun ds O pc h => hk _ _ _ _ _ _ _ h) hnr htr (fun ho hv H locs ls hW hS hl => lv_icmp_gt hx hb hd hbt (fun _ => hv H locs ls hW hS hl) (fun hn => absurd ho hn)) (fun ho hv H locs ls hW hS hl => lv_icmp_gt hx hb hd hbt (fun hn => absurd hn ho) (fun _ => hv H locs ls hW hS hl))
      · exact res_stuck hpc
    | le =>
      simp only [stp]
      split
      · exact res_br hpc (fun ds O pc h => hk _ _ _ _ _ _ _ h) hnr htr (fun ho hv H locs ls hW hS hl => lv_icmp_le hx hb hd hbt (fun _ => hv H locs ls hW hS hl) (fun hn => absurd ho hn)) (fun ho hv H locs ls hW hS hl => lv_icmp_le hx hb hd hbt (fun hn => absurd hn ho) (fun _ => hv H locs ls hW hS hl))
      · exact res_stuck hpc
  | getfield ix =>
    subst hnp
    simp only [stp]
    split
    · split
      · next hf =>
        refine res_ob (hk _ _ _ _ _ _ _ hnr) (fun ho hv H locs ls hW hS hl => ?_)
        obtain ⟨hlt, hP⟩ := wd_obj (ci := 0) hC hW ho
        obtain ⟨Cn, T, NF, ty0, f1, f2, f3, f4, f5, f6, f7, f8, f9, f10, f11, f12, f13⟩ := hF _ _ _ _ _ hf
        exact va_get (D := D) (ref := Cn) (C := Cn) (T := T) (N := NF) hx hb hts f3 hown hK hP 0 rfl f1 _ f2 (hts _ f4) (fun x h => by rw [← f5]; exact h) ((fdv_get ad I L _ _ 0 _ _ _ f6).trans (by simp [cz])) hd (hv H locs ls hW hS hl)
      · next hf =>
        refine res_ob (hk _ _ _ _ _ _ _ hnr) (fun ho hv H locs ls hW hS hl => ?_)
        obtain ⟨hlt, hP⟩ := wd_obj (ci := 0) hC hW ho
        obtain ⟨Cn, T, NF, ty0, f1, f2, f3, f4, f5, f6, f7, f8, f9, f10, f11, f12, f13⟩ := hF _ _ _ _ _ hf
        exact va_get (D := D) (ref := Cn) (C := Cn) (T := T) (N := NF) hx hb hts f3 hown hK hP 0 rfl f1 _ f2 (hts _ f4) (fun x h => by rw [← f5]; exact h) ((fdv_get ad I L _ _ 0 _ _ _ f6).trans (by simp [cz])) hd (hv H locs ls hW hS hl)
      · next hf =>
        split
        · refine res_ob (hk _ _ _ _ _ _ _ hnr) (fun ho hv H locs ls hW hS hl => ?_)
          obtain ⟨ho, rfl⟩ := ho
          obtain ⟨hlt, hP⟩ := wd_obj (ci := 0) hC hW ho
          obtain ⟨Cn, T, NF, ty0, f1, f2, f3, f4, f5, f6, f7, f8, f9, f10, f11, f12, f13⟩ := hF _ _ _ _ _ hf
          exact va_get (D := D) (ref := Cn) (C := Cn) (T := T) (N := NF) hx hb hts f3 hown hK hP 0 rfl f1 _ f2 (hts _ f4) (fun x h => by rw [← f5]; exact h) ((fdv_get ad I L _ _ 0 _ _ _ f6).trans (by simp [cz])) hd (hv H locs ls hW hS hl)
        · exact res_stuck hpc
      · next hf =>
        refine res_ob (hk _ _ _ _ _ _ _ hnr) (fun ho hv H locs ls hW hS hl => ?_)
        obtain ⟨hlt, hP⟩ := wd_obj (ci := 0) hC hW ho
        obtain ⟨Cn, T, NF, ty0, f1, f2, f3, f4, f5, f6, f7, f8, f9, f10, f11, f12, f13⟩ := hF _ _ _ _ _ hf
        exact va_get (D := D) (ref := Cn) (C := Cn) (T := T) (N := NF) hx hb hts f3 hown hK hP 0 rfl f1 _ f2 (hts _ f4) (fun x h => by rw [← f5]; exact h) ((fdv_get ad I L _ _ 0 _ _ _ f6).trans (by simp [cz])) hd (hv H locs ls hW hS hl)
      · exact res_stuck hpc
    · exact res_stuck hpc
  | putfield ix =>
    subst hnp
    simp only [stp]
    split
    · split
      · next hf => exact res_ob (hk _ _ _ _ _ _ _ hnr) (fun ho hv H locs ls hW hS hl => putI_row hC hF hf ho (Or.inl ⟨rfl, rfl⟩) hW hS hd (fun H1 locs1 hW1 hS1 => hv H1 locs1 ls hW1 hS1 hl))
      · next hf => exact res_ob (hk _ _ _ _ _ _ _ hnr) (fun ho hv H locs ls hW hS hl => putI_row hC hF hf ho.1 (Or.inr ⟨rfl, ho.2⟩) hW hS hd (fun H1 locs1 hW1 hS1 => hv H1 locs1 ls hW1 hS1 hl))
      · exact res_stuck hpc
    · split
      · next hf => exact res_ob (hk _ _ _ _ _ _ _ hnr) (fun ho hv H locs ls hW hS hl => putL_row hC hF hf ho hW hS hd (fun H1 locs1 hW1 hS1 => hv H1 locs1 ls hW1 hS1 hl))
      · exact res_stuck hpc
    · exact res_stuck hpc
  | iaload =>
    subst hnp
    simp only [stp]
    split
    · split
      · refine res_ob (hk _ _ _ _ _ _ _ hnr) (fun ho hv H locs ls hW hS hl => ?_)
        obtain ⟨hkd1, rfl, hj⟩ := ho
        exact aldI_row hC hkd1 hj hW hd (hv H locs ls hW hS hl)
      · exact res_stuck hpc
    · exact res_stuck hpc
  | laload =>
    subst hnp
    simp only [stp]
    split
    · split
      · refine res_ob (hk _ _ _ _ _ _ _ hnr) (fun ho hv H locs ls hW hS hl => ?_)
        obtain ⟨hkd1, rfl, hj⟩ := ho
        exact aldL_row hC hkd1 hj hW hd (hv H locs ls hW hS hl)
      · exact res_stuck hpc
    · exact res_stuck hpc
  | baload =>
    subst hnp
    simp only [stp]
    split
    · split
      · refine res_ob (hk _ _ _ _ _ _ _ hnr) (fun ho hv H locs ls hW hS hl => ?_)
        obtain ⟨hkd1, rfl, hj⟩ := ho
        exact aldZ_row hC hkd1 hj hW hd (hv H locs ls hW hS hl)
      · exact res_stuck hpc
    · exact res_stuck hpc
  | aaload =>
    subst hnp
    simp only [stp]
    split
    · split
      · refine res_ob (hk _ _ _ _ _ _ _ hnr) (fun ho hv H locs ls hW hS hl => ?_)
        obtain ⟨⟨w, hkd1, rfl⟩, h4, h6, rfl, hj⟩ := ho
        obtain ⟨hlt, hP⟩ := wd_arrQ hC hW h4 h6 hkd1
        exact aald_row hx hb hK h4 h6 hP hj hkd.2 hkd1 hd (hv H locs ls hW hS hl)
      · exact res_stuck hpc
    · exact res_stuck hpc
  | iastore =>
    subst hnp
    simp only [stp]
    split
    · split
      · refine res_ob (hk _ _ _ _ _ _ _ hnr) (fun ho hv H locs ls hW hS hl => ?_)
        obtain ⟨hkd1, rfl, hj⟩ := ho
        exact astI_row hC hkd1 hj hW hS hd (fun H1 locs1 hW1 hS1 => hv H1 locs1 ls hW1 hS1 hl)
      · exact res_stuck hpc
    · exact res_stuck hpc
  | lastore =>
    subst hnp
    simp only [stp]
    split
    · split
      · refine res_ob (hk _ _ _ _ _ _ _ hnr) (fun ho hv H locs ls hW hS hl => ?_)
        obtain ⟨hkd1, rfl, hj⟩ := ho
        exact astL_row hC hkd1 hj hW hS hd (fun H1 locs1 hW1 hS1 => hv H1 locs1 ls hW1 hS1 hl)
      · exact res_stuck hpc
    · exact res_stuck hpc
  | bastore =>
    subst hnp
    simp only [stp]
    split
    · split
      · refine res_ob (hk _ _ _ _ _ _ _ hnr) (fun ho hv H locs ls hW hS hl => ?_)
        obtain ⟨hkd1, rfl, hj, h01⟩ := ho
        exact astZ_row hC hkd1 hj h01 hW hS hd (fun H1 locs1 hW1 hS1 => hv H1 locs1 ls hW1 hS1 hl)
      · exact res_stuck hpc
    · exact res_stuck hpc
  | ireturn =>
    simp only [stp]
    split
    · exact res_ret (fun he => hret _ _ _ _ _ _ hd hrb (Or.inl ⟨rfl, _, rfl⟩) he)
    · exact res_stuck hpc
  | lreturn =>
    simp only [stp]
    split
    · exact res_ret (fun he => hret _ _ _ _ _ _ hd hrb (Or.inr (Or.inl ⟨rfl, _, rfl⟩)) he)
    · exact res_stuck hpc
  | freturn =>
    simp only [stp]
    split
    · exact res_ret (fun he => hret _ _ _ _ _ _ hd hrb (Or.inr (Or.inr (Or.inl ⟨rfl, _, rfl⟩))) he)
    · exact res_stuck hpc
  | dreturn =>
    simp only [stp]
    split
    · exact res_ret (fun he => hret _ _ _ _ _ _ hd hrb (Or.inr (Or.inr (Or.inr (Or.inl ⟨rfl, _, rfl⟩)))) he)
    · exact res_stuck hpc
  | return_ =>
    simp only [stp]
    split
    · exact res_ret (fun he => hret _ _ _ _ _ _ hd hrb (Or.inr (Or.inr (Or.inr (Or.inr ⟨rfl, rfl⟩)))) he)
    · exact res_stuck hpc
  | _ => exact res_stuck hpc
end SND
end
section
/-! THE RULES of a walk, and contracts -/
section RUN
variable {p : Program} {l : Launch} {e : Env} {R : Room} {s : State} {m : MethodId} {args : Array Value} {below : List Frame} {meth : Method} {c : Code} {Q : State → Prop} {cc : ByteArray} {nL : Nat} {own : String} {D : va_G} {cy : Nat → ClassId} {kd : KdT} {ad : Nat → Nat} {N : Nat} {E : List Value → IM → LM → Prop}
theorem run_ok {F : Ft} {P : List En} {ret : Option FieldType} (hC : Cx p s m args c cc nL own D cy kd ad N) (hF : FOK own F) (hP : okP cc own P = true) (hloc : P.all (fun q => locB nL q.2.1) = true) (hrb : P.all (fun q => retB ret q.2.1) = true)
    (hret : ∀ (pc : Nat) (ins : Instr) (lv : LV) (st : List Value) (I : IM) (L : LM), decode cc pc = .ok (ins, 1) → retB ret ins = true → ((ins = .ireturn ∧ ∃ x, st = [.int x]) ∨ (ins = .lreturn ∧ ∃ x, st = [.long x]) ∨ (ins = .freturn ∧ ∃ x, st = [.float x]) ∨ (ins = .dreturn ∧ ∃ x, st = [.double x]) ∨ (ins = .return_ ∧ st = [])) → E st I L → VV p l e R s m args below meth c Q nL D cy kd ad N pc lv st I L) :
    ∀ n ds O pc lv st I L, pc < RET → Res (VV p l e R s m args below meth c Q nL D cy kd ad N) E O (run kd F P n ds O pc lv st I L) (VV p l e R s m args below meth c Q nL D cy kd ad N pc lv st I L) := by
  intro n
  induction n with
  | zero => intro ds O pc lv st I L h; exact res_stuck h
  | succ n ih =>
    intro ds O pc lv st I L h
    simp only [run]
    split
    · next hl =>
      have hm := lk_mem P hl
      exact stp_ok hC hF hret ih (insOK_of hP hl) (List.all_eq_true.mp hloc _ hm) (List.all_eq_true.mp hrb _ hm) ds O lv st I L
    · exact res_stuck h
end RUN
theorem WB_good {w : Cond} (h : w ∈ WB) : w ∈ WB ∧ ((w.onTables && w.keeps) = true ∨ ∃ ty, w = .arrayClass ty) := ⟨h, good_of_word (List.mem_filter.mp h).2⟩
theorem gIn {ws : List Cond} (h : ∀ w ∈ ws, w ∈ WB) : GoodIn WB ws := fun w hw => WB_good (h w hw)
/-- a method's words: its code, then all of them -/
abbrev wsY (y : MethodName) (bytes : ByteArray) (maxL : Nat) (ret : Option FieldType) : List Cond := .code y bytes maxL ret :: WB
/-- THE CONTRACT: over the world of I and L, with these arguments, it returns r and leaves the world of I2 and L2 -/
def CR (l : Launch) (kd : KdT) (N : Nat) (y : MethodName) (bytes : ByteArray) (maxL : Nat) (ret : Option FieldType) (rm : Room) (av : List Value) (I : IM) (L : LM) (r : Option Value) (I2 : IM) (L2 : LM) : Prop :=
  ∀ (D : va_G) (cy : Nat → ClassId) (ad : Nat → Nat), inj ad N → Met l y (wsY y bytes maxL ret) rm (va_Pc (av.map (cz ad)) (fun U => wd D cy kd ad N I L U.heap ∧ va_K D vwCl (tysC cy) U)) (fun _ st oc t => (oc = .returned (r.map (cz ad)) ∧ wd D cy kd ad N I2 L2 t.heap) ∧ va_F (AA ad N) st t) 0 0 (AA ad N)
/-- what a call's words say -/
def SitS (own : String) (ix : Nat) (y : MethodName) (bytes : ByteArray) (maxL : Nat) (ret : Option FieldType) (n : Nat) : Prop := (Cond.methodLink own ix y ∈ WB ∧ Cond.static y ∈ WB ∧ Cond.initialized y.cls ∈ WB ∧ Cond.code y bytes maxL ret ∈ WB) ∧ (y.cls ≠ "java/lang/invoke/MethodHandle" ∧ y.cls ≠ "java/lang/invoke/VarHandle" ∧ (parseMethodDescriptor y.desc).map (fun d => d.parameters.length) = some n)
def SitV (own : String) (ix : Nat) (y : MethodName) (bytes : ByteArray) (maxL : Nat) (ret : Option FieldType) (n : Nat) : Prop := (Cond.methodLink own ix y ∈ WB ∧ Cond.instanceMethod y ∈ WB ∧ Cond.selects y.cls y y ∈ WB ∧ Cond.initialized y.cls ∈ WB ∧ Cond.code y bytes maxL ret ∈ WB) ∧ (y.cls = y.cls ∧ y.cls ≠ "java/lang/invoke/MethodHandle" ∧ y.cls ≠ "java/lang/invoke/VarHandle" ∧ (parseMethodDescriptor y.desc).map (fun d => d.parameters.length) = some n)
def RmOK (rm R : Room) (maxL : Nat) : Bool := Nat.beq rm.cells 0 && (Nat.beq rm.slots 0 && (Nat.ble (rm.frames + 1) R.frames && Nat.ble (8 + (maxL + 11) + rm.locals) R.locals))
theorem rmOK_of {rm R : Room} {maxL : Nat} (h : RmOK rm R maxL = true) : rm.cells = 0 ∧ rm.slots = 0 ∧ rm.frames + 1 ≤ R.frames ∧ 8 + (maxL + 11) + rm.locals ≤ R.locals := by
  simp only [RmOK, Bool.and_eq_true, Nat.ble_eq, Nat.beq_eq] at h
  exact h
theorem cz_sum (ad : Nat → Nat) (l : List Value) : ((l.map (cz ad)).map fun v => v.category).sum = (l.map fun v => v.category).sum := by
  induction l with
  | nil => rfl
  | cons v t ih => simp only [List.map_cons, List.sum_cons, cz_cat, ih]
section CALL
variable {p : Program} {l : Launch} {e : Env} {R : Room} {s : State} {m : MethodId} {args : Array Value} {below : List Frame} {meth : Method} {c : Code} {Q : State → Prop} {cc : ByteArray} {nL : Nat} {own : String} {D : va_G} {cy : Nat → ClassId} {kd : KdT} {ad : Nat → Nat} {N : Nat}
/-- behind a call -/
theorem vv_back {pc : Nat} {lv : LV} {rest : List Value} {I2 : IM} {L2 : LM} {r : Option Value} {H : Heap} {locs : List Loc} {ls : Array Slot} {st0 : List Value} {a : Array Value}
    (hr : va_Run p l e R s m args below meth c H locs 0 0 0 0 (F0 m pc ls st0) (rest.map (cz ad)) ((fun _ st oc t => (oc = .returned (r.map (cz ad)) ∧ wd D cy kd ad N I2 L2 t.heap) ∧ va_F (AA ad N) st t) a) (AA ad N))
    (hS : va_S (AA ad N) s.heap H locs) (hl : lv_has ls nL (lv.map fun q => (q.1, cz ad q.2))) (hv : VV p l e R s m args below meth c Q nL D cy kd ad N (pc + 3) lv (r.toList ++ rest) I2 L2) :
    W p l e R s m args below meth c H locs 0 0 Q (F0 m pc ls st0) := by
  intro T hT X
  obtain ⟨v, st₀, t, T', Lx, h0, X', hL, e1, e2, ⟨⟨hv1, hwd⟩, hz, hk⟩, st⟩ := hr T hT X
  have hv2 : v = r.map (cz ad) := by cases hv1; rfl
  rw [h0] at hz hk
  have key := hv T'.heap (locs ++ Lx) ls (by rw [e1]; exact hwd) ⟨Nat.le_trans hS.1 (by rw [e1]; exact hz), fun q h1 h2 => by rw [e1, hk q (Nat.lt_of_lt_of_le h1 hS.1) h2]; exact hS.2.1 q h1 h2, fun q hq => by
      rcases List.mem_append.mp hq with h | h
      · exact hS.2.2 q h
      · exact hL q h⟩ hl
  obtain ⟨t2, a1, b1⟩ := key T' rfl X'
  refine ⟨t2, st t2 ?_, b1⟩
  rw [hv2]
  have e3 : (Option.map (cz ad) r).toList ++ rest.map (cz ad) = (r.toList ++ rest).map (cz ad) := by
    cases r <;> simp
  rw [e3]
  exact a1
theorem vv_callS {pc ix : Nat} {y : MethodName} {bytes : ByteArray} {maxL : Nat} {ret : Option FieldType} {rm : Room} {av rest : List Value} {lv : LV} {I I2 : IM} {L L2 : LM} {r : Option Value} (hC : Cx p s m args c cc nL own D cy kd ad N) (hdg : decode cc pc = .ok (.invokestatic ix, 3)) (hs : SitS own ix y bytes maxL ret av.length) (hrm : RmOK rm R maxL = true) (hM : CR l kd N y bytes maxL ret rm av I L r I2 L2) (hcat : (rest.map fun v => v.category).sum ≤ 8) (hv : VV p l e R s m args below meth c Q nL D cy kd ad N (pc + 3) lv (r.toList ++ rest) I2 L2) : VV p l e R s m args below meth c Q nL D cy kd ad N pc lv (av.reverse ++ rest) I L := by
  intro H locs ls hW hS hl
  obtain ⟨hx, hb, hml, hown, hts, hK, hinj, hkd⟩ := hC
  obtain ⟨⟨h1, h2, h3, h4⟩, hd⟩ := hs
  obtain ⟨r1, r2, r3, r4⟩ := rmOK_of hrm
  refine vv_back (a := (av.map (cz ad)).toArray) ?_ hS hl hv
  refine va_runS (n := av.length) ⟨hx, hb, hml, hown, hts⟩ (hM D cy ad hinj) (va_cwS av.length hts (gIn (fun w hw => ?_)) rfl r1 r2 hd ⟨r3, r4⟩) ⟨fun a U g mk q => ?_, fun U hU hWm => ⟨rfl, by rw [hU]; exact hW, va_K.moved hWm.alike hK⟩⟩ rfl (by simp) hl.1 (by simp) (lv_room (by rw [cz_sum]; exact hcat)) hdg ⟨Nat.zero_le _, Nat.zero_le _⟩
  · rcases List.mem_append.mp hw with h | h
    · simp only [List.mem_cons, List.not_mem_nil, or_false] at h
      rcases h with rfl | rfl | rfl
      · exact h1
      · exact h2
      · exact h3
    · rcases List.mem_cons.mp h with rfl | h
      · exact h4
      · exact h
  · obtain ⟨q0, qW, qK⟩ := q
    exact ⟨q0, qW, va_K.moved (u := U) (U := U.calling g mk a) (Vm.Alike.refl U.vm) qK⟩
theorem vv_callV {pc ix i ci b : Nat} {T : u_T} {NF : Nat} {y : MethodName} {bytes : ByteArray} {maxL : Nat} {ret : Option FieldType} {rm : Room} {av rest : List Value} {lv : LV} {I I2 : IM} {L L2 : LM} {r : Option Value} (hC : Cx p s m args c cc nL own D cy kd ad N) (hdg : decode cc pc = .ok (.invokevirtual ix, 3)) (hs : SitV own ix y bytes maxL ret av.length) (hrm : RmOK rm R maxL = true) (hkd1 : kd i = (0, ci, b)) (hcl : vwCl[ci]? = some (y.cls, T, NF)) (hM : CR l kd N y bytes maxL ret rm (.ref i :: av) I L r I2 L2) (hcat : (rest.map fun v => v.category).sum ≤ 8) (hv : VV p l e R s m args below meth c Q nL D cy kd ad N (pc + 3) lv (r.toList ++ rest) I2 L2) : VV p l e R s m args below meth c Q nL D cy kd ad N pc lv (av.reverse ++ .ref i :: rest) I L := by
  intro H locs ls hW hS hl
  obtain ⟨hlt, hP⟩ := wd_obj (ci := 0) hC hW hkd1
  obtain ⟨hx, hb, hml, hown, hts, hK, hinj, hkd⟩ := hC
  obtain ⟨⟨h1, h2, h3, h4, h5⟩, hd⟩ := hs
  obtain ⟨r1, r2, r3, r4⟩ := rmOK_of hrm
  refine vv_back (a := (Value.ref (ad i) :: av.map (cz ad)).toArray) ?_ hS hl hv
  refine va_runV (n := av.length) (b := ad i) (C := y.cls) ⟨hx, hb, hml, hown, hts⟩ (hM D cy ad hinj) (cwV av.length hts (gIn (fun w hw => ?_)) rfl r1 r2 hd ⟨r3, r4⟩) ⟨fun a U g mk q => ?_, va_recv hK hP (ci := ci) (q0 := 0) hcl rfl, fun U hU hWm => ⟨rfl, by rw [hU]; exact hW, va_K.moved hWm.alike hK⟩⟩ rfl (by simp) hl.1 (by simp [cz]) (lv_room (by rw [cz_sum]; exact hcat)) hdg ⟨Nat.zero_le _, Nat.zero_le _⟩
  · rcases List.mem_append.mp hw with h | h
    · simp only [List.mem_cons, List.not_mem_nil, or_false] at h
      rcases h with rfl | rfl | rfl | rfl
      · exact h1
      · exact h2
      · exact h3
      · exact h4
    · rcases List.mem_cons.mp h with rfl | h
      · exact h5
      · exact h
  · obtain ⟨q0, qW, qK⟩ := q
    exact ⟨q0, qW, va_K.moved (u := U) (U := U.calling g mk a) (Vm.Alike.refl U.vm) qK⟩
end CALL
/-- the first n places of a row taken from another -/
def cp0 {α : Type} (f g : Nat → α) (n : Nat) : Nat → α := fun j => if j < n then f j else g j
/-- a row laid anew -/
def mrow {α : Type} (I : Nat → Nat → α) (i : Nat) (f : Nat → α) : Nat → Nat → α := fun a => if a = i then f else I a
def SitN (own : String) (ix : Nat) (y : MethodName) : Prop := Cond.methodLink own ix y ∈ WB ∧ Cond.native y ∈ WB ∧ Cond.static y ∈ WB ∧ Cond.initialized y.cls ∈ WB
section CPY
variable {p : Program} {l : Launch} {e : Env} {R : Room} {s : State} {m : MethodId} {args : Array Value} {below : List Frame} {meth : Method} {c : Code} {Q : State → Prop} {cc : ByteArray} {nL : Nat} {own : String} {D : va_G} {cy : Nat → ClassId} {kd : KdT} {ad : Nat → Nat} {N : Nat}
theorem cpyI_row {H : Heap} {locs : List Loc} {cells slots : Nat} {pc ix : Nat} {ls : Array Slot} {rest : List Value} {I : IM} {L : LM} {i0 i1 n0 n1 n : Nat} (hC : Cx p s m args c cc nL own D cy kd ad N) (hls : ls.size = nL) (hs : SitN own ix arraycopyName) (hk0 : kd i0 = (1, n0, 0)) (hk1 : kd i1 = (1, n1, 0)) (h4 : n ≤ n0) (h5 : n ≤ n1) (hW : wd D cy kd ad N I L H) (hS : va_S (AA ad N) s.heap H locs)
    (hframes : 1 ≤ R.frames) (hlocals : (rest.map fun v => v.category).sum + (nativeFrameWords "java/lang/System" "arraycopy" 5 + 11) ≤ R.locals) (hdg : decode cc pc = .ok (.invokestatic ix, 3))
    (kk : ∀ (H1 : Heap) (locs1 : List Loc), wd D cy kd ad N (mrow I i1 (cp0 (I i0) (I i1) n)) L H1 → va_S (AA ad N) s.heap H1 locs1 → W p l e R s m args below meth c H1 locs1 cells slots Q (F0 m (pc + 3) ls rest)) : W p l e R s m args below meth c H locs cells slots Q (F0 m pc ls (.int (nI n) :: .int 0 :: .ref (ad i1) :: .int 0 :: .ref (ad i0) :: rest)) := by
  obtain ⟨hlt0, hP0⟩ := wd_arrI hC hW hk0
  obtain ⟨hlt1, hP1⟩ := wd_arrI hC hW hk1
  have hn0 := hC.2.2.2.2.2.2.2.2 i0
  rw [hk0] at hn0
  obtain ⟨hexec, hb, hml, hown, hts, hK, hinj, hkd⟩ := hC
  obtain ⟨w1, w2, w3, w4⟩ := hs
  have hnn : n < 2 ^ 31 := Nat.lt_of_le_of_lt h4 hn0
  have h3 : ¬ nI n < 0 := nI_pos hnn
  have hcl : (nI n).toNatClampNeg = n := nI_clamp hnn
  have hti : (nI n).toInt = (n : Int) := nI_toInt hnn
  intro T hT X
  have hc0 : H[ad i0]? = some (vp_cell (cy 0) (n0, .inl (I i0))) := hP0 0 _ rfl
  have hc1 : H[ad i1]? = some (vp_cell (cy 0) (n1, .inl (I i1))) := hP1 0 _ rfl
  obtain ⟨-, k0, hkk0, cm0, hkkk0⟩ := (hK.2 0 _ rfl).1 n0 (fun j => .int (I i0 j))
  obtain ⟨-, k1, hkk1, cm1, hkkk1⟩ := (hK.2 0 _ rfl).1 n1 (fun j => .int (I i1 j))
  obtain ⟨vm', X', step⟩ := X.arraycopy hexec hown (hts _ w1) (hts _ w2) (hts _ w3) (hts _ w4) (src := ad i0) (dst := ad i1) (cs := vp_cell (cy 0) (n0, .inl (I i0))) (cd := vp_cell (cy 0) (n1, .inl (I i1))) (srcPos := 0) (destPos := 0) (n := nI n) (by rw [hT]; exact hc0) (by rw [hT]; exact hc1)
    (fun _ h => by cases h) (fun _ h => by cases h) (fun h => by cases h) (fun h => by cases h) hkk0 hkk1 hkkk0 hkkk1 (by simp [show refKind FieldType.int = false from rfl]) (by decide) (by decide) h3
    (by rw [hti]; show ¬ _ > ((arrV (cy 0) n0 (fun j => .int (I i0 j))).slots.size : Int); rw [arrV_size]; have : (0 : Int32).toInt = 0 := rfl; omega)
    (by rw [hti]; show ¬ _ > ((arrV (cy 0) n1 (fun j => .int (I i1 j))).slots.size : Int); rw [arrV_size]; have : (0 : Int32).toInt = 0 := rfl; omega)
    (fun vm₁ _ i hi => by
      rw [hcl] at hi
      have e : (vp_cell (cy 0) (n0, .inl (I i0))).slots.getD ((0 : Int32).toNatClampNeg + i) .null = .int (I i0 i) := by
        show (arrV (cy 0) n0 (fun j => .int (I i0 j))).slots.getD _ _ = _
        rw [show (0 : Int32).toNatClampNeg + i = i from Nat.zero_add i, Array.getD_eq_getD_getElem?, arrV_read _ _ (by omega)]
        rfl
      refine ⟨?_, ?_⟩
      · rw [e]
        rfl
      · rw [e]
        exact trivial)
    (g := F0 m pc ls (.int (nI n) :: .int 0 :: .ref (ad i1) :: .int 0 :: .ref (ad i0) :: rest)) rfl (by rw [hml]; exact hls) (rest := rest) rfl (by rw [hb]; exact hdg) hframes (by show 2 * 0 + _ + _ ≤ _; omega)
  have e1 : copied (vp_cell (cy 0) (n0, .inl (I i0))) (vp_cell (cy 0) (n1, .inl (I i1))) 0 0 (nI n) = vp_cell (cy 0) (n1, .inl (va_cpy (I i0) (I i1) (0 : Int32).toNatClampNeg (0 : Int32).toNatClampNeg (nI n).toNatClampNeg)) := va_copied (fun z => .int z) (cy 0) (cy 0) (I i0) (I i1) (by rw [hcl]; show 0 + n ≤ n0; omega)
  have e2 : va_cpy (I i0) (I i1) (0 : Int32).toNatClampNeg (0 : Int32).toNatClampNeg (nI n).toNatClampNeg = cp0 (I i0) (I i1) n := by
    rw [hcl]
    funext k
    show (if 0 ≤ k ∧ k < 0 + n then _ else _) = _
    simp [va_cpy, cp0]
  rw [e1, e2] at X' step
  generalize hcell : vp_cell (cy 0) (n1, .inl (cp0 (I i0) (I i1) n)) = cell at X' step
  have hl : ad i1 < H.size := (Array.getElem?_eq_some_iff.mp hc1).1
  have hheap : ((T.setVm vm').setCell (ad i1) cell).heap = H.setIfInBounds (ad i1) cell := by rw [← hT]; rfl
  have oq : ∀ q : Nat, q ≠ ad i1 → (H.setIfInBounds (ad i1) cell)[q]? = H[q]? := fun q hq => by simp [Array.getElem?_setIfInBounds, Ne.symm hq]
  have hct : ctn cy kd ad (mrow I i1 (cp0 (I i0) (I i1) n)) L i1 = .inl (cy 0, n1, .inl (cp0 (I i0) (I i1) n)) := by
    unfold ctn
    rw [hk1]
    simp only [mrow, if_true]
    rfl
  obtain ⟨t, a1, b1⟩ := kk _ _ (wd_put hinj hW hlt1 (by rw [hct]; show (H.setIfInBounds (ad i1) cell)[ad i1]? = some (vp_cell _ _); rw [hcell]; simp [Array.getElem?_setIfInBounds, hl]) oq (fun q hq => by simp [mrow, hq]) (fun _ _ => rfl)) ⟨by simp; exact hS.1, fun q g1 g2 => by
      rw [oq q (fun e => g2 ⟨i1, hlt1, e⟩)]
      exact hS.2.1 q g1 g2, fun q hq => by
      rcases List.mem_append.mp hq with h | h
      · exact hS.2.2 q h
      · obtain ⟨z, -, hz⟩ := List.mem_map.mp h
        rw [← hz]
        exact ⟨i1, hlt1, rfl⟩⟩ _ hheap X'
  exact ⟨t, step t a1, b1⟩
theorem cpyL_row {H : Heap} {locs : List Loc} {cells slots : Nat} {pc ix : Nat} {ls : Array Slot} {rest : List Value} {I : IM} {L : LM} {i0 i1 n0 n1 n : Nat} (hC : Cx p s m args c cc nL own D cy kd ad N) (hls : ls.size = nL) (hs : SitN own ix arraycopyName) (hk0 : kd i0 = (2, n0, 0)) (hk1 : kd i1 = (2, n1, 0)) (h4 : n ≤ n0) (h5 : n ≤ n1) (hW : wd D cy kd ad N I L H) (hS : va_S (AA ad N) s.heap H locs)
    (hframes : 1 ≤ R.frames) (hlocals : (rest.map fun v => v.category).sum + (nativeFrameWords "java/lang/System" "arraycopy" 5 + 11) ≤ R.locals) (hdg : decode cc pc = .ok (.invokestatic ix, 3))
    (kk : ∀ (H1 : Heap) (locs1 : List Loc), wd D cy kd ad N I (mrow L i1 (cp0 (L i0) (L i1) n)) H1 → va_S (AA ad N) s.heap H1 locs1 → W p l e R s m args below meth c H1 locs1 cells slots Q (F0 m (pc + 3) ls rest)) : W p l e R s m args below meth c H locs cells slots Q (F0 m pc ls (.int (nI n) :: .int 0 :: .ref (ad i1) :: .int 0 :: .ref (ad i0) :: rest)) := by
  obtain ⟨hlt0, hP0⟩ := wd_arrL hC hW hk0
  obtain ⟨hlt1, hP1⟩ := wd_arrL hC hW hk1
  have hn0 := hC.2.2.2.2.2.2.2.2 i0
  rw [hk0] at hn0
  obtain ⟨hexec, hb, hml, hown, hts, hK, hinj, hkd⟩ := hC
  obtain ⟨w1, w2, w3, w4⟩ := hs
  have hnn : n < 2 ^ 31 := Nat.lt_of_le_of_lt h4 hn0
  have h3 : ¬ nI n < 0 := nI_pos hnn
  have hcl : (nI n).toNatClampNeg = n := nI_clamp hnn
  have hti : (nI n).toInt = (n : Int) := nI_toInt hnn
  intro T hT X
  have hc0 : H[ad i0]? = some (vp_cell (cy 1) (n0, .inr (.inl (L i0)))) := hP0 0 _ rfl
  have hc1 : H[ad i1]? = some (vp_cell (cy 1) (n1, .inr (.inl (L i1)))) := hP1 0 _ rfl
  obtain ⟨-, k0, hkk0, cm0, hkkk0⟩ := (hK.2 1 _ rfl).1 n0 (fun j => .long (L i0 j))
  obtain ⟨-, k1, hkk1, cm1, hkkk1⟩ := (hK.2 1 _ rfl).1 n1 (fun j => .long (L i1 j))
  obtain ⟨vm', X', step⟩ := X.arraycopy hexec hown (hts _ w1) (hts _ w2) (hts _ w3) (hts _ w4) (src := ad i0) (dst := ad i1) (cs := vp_cell (cy 1) (n0, .inr (.inl (L i0)))) (cd := vp_cell (cy 1) (n1, .inr (.inl (L i1)))) (srcPos := 0) (destPos := 0) (n := nI n) (by rw [hT]; exact hc0) (by rw [hT]; exact hc1)
    (fun _ h => by cases h) (fun _ h => by cases h) (fun h => by cases h) (fun h => by cases h) hkk0 hkk1 hkkk0 hkkk1 (by simp [show refKind FieldType.long = false from rfl]) (by decide) (by decide) h3
    (by rw [hti]; show ¬ _ > ((arrV (cy 1) n0 (fun j => .long (L i0 j))).slots.size : Int); rw [arrV_size]; have : (0 : Int32).toInt = 0 := rfl; omega)
    (by rw [hti]; show ¬ _ > ((arrV (cy 1) n1 (fun j => .long (L i1 j))).slots.size : Int); rw [arrV_size]; have : (0 : Int32).toInt = 0 := rfl; omega)
    (fun vm₁ _ i hi => by
      rw [hcl] at hi
      have e : (vp_cell (cy 1) (n0, .inr (.inl (L i0)))).slots.getD ((0 : Int32).toNatClampNeg + i) .null = .long (L i0 i) := by
        show (arrV (cy 1) n0 (fun j => .long (L i0 j))).slots.getD _ _ = _
        rw [show (0 : Int32).toNatClampNeg + i = i from Nat.zero_add i, Array.getD_eq_getD_getElem?, arrV_read _ _ (by omega)]
        rfl
      refine ⟨?_, ?_⟩
      · rw [e]
        rfl
      · rw [e]
        exact trivial)
    (g := F0 m pc ls (.int (nI n) :: .int 0 :: .ref (ad i1) :: .int 0 :: .ref (ad i0) :: rest)) rfl (by rw [hml]; exact hls) (rest := rest) rfl (by rw [hb]; exact hdg) hframes (by show 2 * 0 + _ + _ ≤ _; omega)
  have e1 : copied (vp_cell (cy 1) (n0, .inr (.inl (L i0)))) (vp_cell (cy 1) (n1, .inr (.inl (L i1)))) 0 0 (nI n) = vp_cell (cy 1) (n1, .inr (.inl (va_cpy (L i0) (L i1) (0 : Int32).toNatClampNeg (0 : Int32).toNatClampNeg (nI n).toNatClampNeg))) := va_copied (fun z => .long z) (cy 1) (cy 1) (L i0) (L i1) (by rw [hcl]; show 0 + n ≤ n0; omega)
  have e2 : va_cpy (L i0) (L i1) (0 : Int32).toNatClampNeg (0 : Int32).toNatClampNeg (nI n).toNatClampNeg = cp0 (L i0) (L i1) n := by
    rw [hcl]
    funext k
    show (if 0 ≤ k ∧ k < 0 + n then _ else _) = _
    simp [va_cpy, cp0]
  rw [e1, e2] at X' step
  generalize hcell : vp_cell (cy 1) (n1, .inr (.inl (cp0 (L i0) (L i1) n))) = cell at X' step
  have hl : ad i1 < H.size := (Array.getElem?_eq_some_iff.mp hc1).1
  have hheap : ((T.setVm vm').setCell (ad i1) cell).heap = H.setIfInBounds (ad i1) cell := by rw [← hT]; rfl
  have oq : ∀ q : Nat, q ≠ ad i1 → (H.setIfInBounds (ad i1) cell)[q]? = H[q]? := fun q hq => by simp [Array.getElem?_setIfInBounds, Ne.symm hq]
  have hct : ctn cy kd ad I (mrow L i1 (cp0 (L i0) (L i1) n)) i1 = .inl (cy 1, n1, .inr (.inl (cp0 (L i0) (L i1) n))) := by
    unfold ctn
    rw [hk1]
    simp only [mrow, if_true]
    rfl
  obtain ⟨t, a1, b1⟩ := kk _ _ (wd_put hinj hW hlt1 (by rw [hct]; show (H.setIfInBounds (ad i1) cell)[ad i1]? = some (vp_cell _ _); rw [hcell]; simp [Array.getElem?_setIfInBounds, hl]) oq (fun _ _ => rfl) (fun q hq => by simp [mrow, hq])) ⟨by simp; exact hS.1, fun q g1 g2 => by
      rw [oq q (fun e => g2 ⟨i1, hlt1, e⟩)]
      exact hS.2.1 q g1 g2, fun q hq => by
      rcases List.mem_append.mp hq with h | h
      · exact hS.2.2 q h
      · obtain ⟨z, -, hz⟩ := List.mem_map.mp h
        rw [← hz]
        exact ⟨i1, hlt1, rfl⟩⟩ _ hheap X'
  exact ⟨t, step t a1, b1⟩
end CPY
/-- the rules that a walk may use: a run, its end, calls, fewer locals -/
def Ru (l : Launch) (kd : KdT) (N : Nat) (own : String) (cc : ByteArray) (R : Room) (F : Ft) (P : List En) (V : Nat → LV → List Value → IM → LM → Prop) (E : List Value → IM → LM → Prop) : Prop :=
  (∀ n ds pc lv st I L O2 pc2 lv2 st2 I2 L2, run kd F P n ds True pc lv st I L = (O2, pc2, lv2, st2, I2, L2) → pc < RET → O2 → (if pc2 = RET then E st2 I2 L2 else V pc2 lv2 st2 I2 L2) → V pc lv st I L) ∧
  (∀ pc ix np tg cv y bytes maxL ret rm av rest lv I L r I2 L2, lk P pc = some (.invokestatic ix, np, tg, cv) → SitS own ix y bytes maxL ret av.length → RmOK rm R maxL = true → CR l kd N y bytes maxL ret rm av I L r I2 L2 → (rest.map fun v => v.category).sum ≤ 8 → V np lv (r.toList ++ rest) I2 L2 → V pc lv (av.reverse ++ rest) I L) ∧
  (∀ pc ix np tg cv y bytes maxL ret rm av rest lv I L r I2 L2 i ci b T NF, lk P pc = some (.invokevirtual ix, np, tg, cv) → SitV own ix y bytes maxL ret av.length → RmOK rm R maxL = true → kd i = (0, ci, b) → vwCl[ci]? = some (y.cls, T, NF) → CR l kd N y bytes maxL ret rm (.ref i :: av) I L r I2 L2 → (rest.map fun v => v.category).sum ≤ 8 → V np lv (r.toList ++ rest) I2 L2 → V pc lv (av.reverse ++ .ref i :: rest) I L) ∧
  (∀ pc lv lv2 st I L, (∀ q ∈ lv2, q ∈ lv) → V pc lv2 st I L → V pc lv st I L) ∧
  (∀ (pc : Nat) (dflt lo hi : Int) (offs : Array Int) (len tgt : Nat) (x : Int32) (rest : List Value) (lv : LV) (I : IM) (L : LM), decode cc pc = .ok (.tableswitch dflt lo hi offs, len) → ((x.toInt < lo ∨ hi < x.toInt) → (pc : Int) + dflt = (tgt : Int)) → (¬ x.toInt < lo → ¬ hi < x.toInt → ∃ off, offs[(x.toInt - lo).toNat]? = some off ∧ (pc : Int) + off = (tgt : Int)) → V tgt lv rest I L → V pc lv (.int x :: rest) I L) ∧
  (∀ (pc ix np tg : Nat) (cv : Value) (n i0 i1 n0 n1 : Nat) (rest : List Value) (lv : LV) (I : IM) (L : LM), lk P pc = some (.invokestatic ix, np, tg, cv) → SitN own ix arraycopyName → kd i0 = (1, n0, 0) → kd i1 = (1, n1, 0) → n ≤ n0 → n ≤ n1 → 1 ≤ R.frames → (rest.map fun v => v.category).sum + (nativeFrameWords "java/lang/System" "arraycopy" 5 + 11) ≤ R.locals → V np lv rest (mrow I i1 (cp0 (I i0) (I i1) n)) L → V pc lv (.int (nI n) :: .int 0 :: .ref i1 :: .int 0 :: .ref i0 :: rest) I L) ∧
  (∀ (pc ix np tg : Nat) (cv : Value) (n i0 i1 n0 n1 : Nat) (rest : List Value) (lv : LV) (I : IM) (L : LM), lk P pc = some (.invokestatic ix, np, tg, cv) → SitN own ix arraycopyName → kd i0 = (2, n0, 0) → kd i1 = (2, n1, 0) → n ≤ n0 → n ≤ n1 → 1 ≤ R.frames → (rest.map fun v => v.category).sum + (nativeFrameWords "java/lang/System" "arraycopy" 5 + 11) ≤ R.locals → V np lv rest I (mrow L i1 (cp0 (L i0) (L i1) n)) → V pc lv (.int (nI n) :: .int 0 :: .ref i1 :: .int 0 :: .ref i0 :: rest) I L) ∧
  (∀ (pc ix np tg : Nat) (cv : Value) (b : UInt64) (rest : List Value) (lv : LV) (I : IM) (L : LM), lk P pc = some (.invokestatic ix, np, tg, cv) → SitN own ix ⟨"java/lang/Double", "doubleToRawLongBits", "(D)J"⟩ → 1 ≤ R.frames → (rest.map fun v => v.category).sum + 15 ≤ R.locals → V np lv (.long b.toInt64 :: rest) I L → V pc lv (.double b :: rest) I L) ∧
  (∀ (pc ix np tg : Nat) (cv : Value) (b : UInt32) (rest : List Value) (lv : LV) (I : IM) (L : LM), lk P pc = some (.invokestatic ix, np, tg, cv) → SitN own ix ⟨"java/lang/Float", "floatToRawIntBits", "(F)I"⟩ → 1 ≤ R.frames → (rest.map fun v => v.category).sum + 15 ≤ R.locals → V np lv (.int b.toInt32 :: rest) I L → V pc lv (.float b :: rest) I L)
theorem lvargs_map (ad : Nat → Nat) : ∀ (i : Nat) (vs : List Value), lv_args i (vs.map (cz ad)) = (lv_args i vs).map fun q => (q.1, cz ad q.2)
  | _, [] => rfl
  | i, v :: vs => by simp only [List.map_cons, lv_args, cz_cat, lvargs_map ad _ vs]
theorem lgsl_map (ad : Nat → Nat) : ∀ (vs : List Value), (lg_sl (vs.map (cz ad))).length = (lg_sl vs).length
  | [] => rfl
  | v :: vs => by
    have := lgsl_map ad vs
    simp only [lg_sl, List.map_cons, List.flatMap_cons, List.length_append, cz_cat] at this ⊢
    rw [this]
    by_cases h : v.category = 2 <;> simp [h]
theorem met_ofWF {l : Launch} {y : MethodName} {ws ws' : List Cond} {rm : Room} {Pc : Array Value → State → Prop} {Qc : Array Value → State → Outcome → State → Prop} {mc ms : Nat} {free : Addr → Prop} {cc : ByteArray} {maxL : Nat} {ret : Option FieldType}
    (hy : plainFor y = true) (hw : ws = Cond.code y cc maxL ret :: ws')
    (body : ∀ p e s m args below meth c s₁, BodyLoose p l y (headSpec ws rm) cc maxL ret e s m args below meth c s₁ → c.maxLocals = maxL → Pc args s →
      W p l e (headSpec ws rm).room s m args below meth c s.heap [] 0 0 (MQ below Qc args s mc ms free) (entryFrame m args maxL)) : Met l y ws rm Pc Qc mc ms free := by
  refine MetFree.of_bodySF (code := cc) (maxLocals := maxL) (ret := ret) hy ?_ ?_
  · intro args s m h hn
    obtain ⟨meth, c, h1, h2, h3, h4, h5, h6, -, -⟩ := Cond.code_spec hn (atoms_spec (ws := ws) h _ (by rw [hw]; exact List.mem_cons_self))
    exact ⟨meth, c, h1, h2, h3, h4, h5, h6⟩
  · intro p e s m args below meth c s₁ B hml hP _
    have hh0 : s₁.heap = s.heap := by rw [B.state]; rfl
    obtain ⟨t, a1, o, b1, b2, b3⟩ := body p e s m args below meth c s₁ B hml hP s₁ hh0 (Stand.of_body B)
    exact ⟨t, o, a1, b1, b2, ⟨b3.1, b3.2⟩⟩
theorem ru_of {p : Program} {l : Launch} {e : Env} {R : Room} {s : State} {m : MethodId} {args : Array Value} {below : List Frame} {meth : Method} {c : Code} {Q : State → Prop} {cc : ByteArray} {nL : Nat} {own : String} {D : va_G} {cy : Nat → ClassId} {kd : KdT} {ad : Nat → Nat} {N : Nat} {E : List Value → IM → LM → Prop} {F : Ft} {P : List En} {ret : Option FieldType} (hC : Cx p s m args c cc nL own D cy kd ad N) (hF : FOK own F) (hP : okP cc own P = true) (hloc : P.all (fun q => locB nL q.2.1) = true) (hrb : P.all (fun q => retB ret q.2.1) = true)
    (hret : ∀ (pc : Nat) (ins : Instr) (lv : LV) (st : List Value) (I : IM) (L : LM), decode cc pc = .ok (ins, 1) → retB ret ins = true → ((ins = .ireturn ∧ ∃ x, st = [.int x]) ∨ (ins = .lreturn ∧ ∃ x, st = [.long x]) ∨ (ins = .freturn ∧ ∃ x, st = [.float x]) ∨ (ins = .dreturn ∧ ∃ x, st = [.double x]) ∨ (ins = .return_ ∧ st = [])) → E st I L → VV p l e R s m args below meth c Q nL D cy kd ad N pc lv st I L) :
    Ru l kd N own cc R F P (VV p l e R s m args below meth c Q nL D cy kd ad N) E := by
  have hx := hC.1
  have hb := hC.2.1
  have hml := hC.2.2.1
  have hnm := hC.2.2.2.1
  have hts := hC.2.2.2.2.1
  refine ⟨?_, ?_, ?_, ?_, ?_, ?_, ?_, ?_, ?_⟩
  · intro n ds pc lv st J K O2 pc2 lv2 st2 J2 K2 hrun hpc hO hV
    have h := run_ok hC hF hP hloc hrb hret n ds True pc lv st J K hpc
    rw [hrun] at h
    exact h.2 hO hV
  · intro pc ix np tg cv y2 bytes2 maxL2 ret2 rm2 av2 rest lv J K r2 J2 K2 hl2 hs hrm hM hcat hV
    obtain ⟨hd, hnp, -⟩ := insOK_of hP hl2
    subst hnp
    exact vv_callS hC hd hs hrm hM hcat hV
  · intro pc ix np tg cv y2 bytes2 maxL2 ret2 rm2 av2 rest lv J K r2 J2 K2 i ci b T NF hl2 hs hrm hk1 hk2 hM hcat hV
    obtain ⟨hd, hnp, -⟩ := insOK_of hP hl2
    subst hnp
    exact vv_callV hC hd hs hrm hk1 hk2 hM hcat hV
  · intro pc lv lv2 st J K hsub hV H locs ls hW hS hl
    exact hV H locs ls hW hS ⟨hl.1, hl.2.1, fun q hq => by
      obtain ⟨z, hz, rfl⟩ := List.mem_map.mp hq
      exact hl.2.2 _ (List.mem_map.mpr ⟨z, hsub z hz, rfl⟩)⟩
  · intro pc dflt lo hi offs len tgt x rest lv J K hdg h1 h2 hV H locs ls hW hS hl
    by_cases a : x.toInt < lo
    · exact lv_tableOut hx hb hdg (Or.inl a) (h1 (Or.inl a)) (hV H locs ls hW hS hl)
    · by_cases b : hi < x.toInt
      · exact lv_tableOut hx hb hdg (Or.inr b) (h1 (Or.inr b)) (hV H locs ls hW hS hl)
      · obtain ⟨off, o1, o2⟩ := h2 a b
        exact lv_tableIn hx hb hdg a b o1 o2 (hV H locs ls hW hS hl)
  · intro pc ix np tg cv n i0 i1 n0 n1 rest lv J K hl2 hs hk0 hk1 h4 h5 hfr hlo hV H locs ls hW hS hl
    obtain ⟨hd, hnp, -⟩ := insOK_of hP hl2
    subst hnp
    exact cpyI_row hC hl.1 hs hk0 hk1 h4 h5 hW hS hfr (by rw [cz_sum]; exact hlo) hd (fun H1 locs1 hW1 hS1 => hV H1 locs1 ls hW1 hS1 hl)
  · intro pc ix np tg cv n i0 i1 n0 n1 rest lv J K hl2 hs hk0 hk1 h4 h5 hfr hlo hV H locs ls hW hS hl
    obtain ⟨hd, hnp, -⟩ := insOK_of hP hl2
    subst hnp
    exact cpyL_row hC hl.1 hs hk0 hk1 h4 h5 hW hS hfr (by rw [cz_sum]; exact hlo) hd (fun H1 locs1 hW1 hS1 => hV H1 locs1 ls hW1 hS1 hl)
  · intro pc ix np tg cv b rest lv J K hl2 hs hfr hlo hV H locs ls hW hS hl
    obtain ⟨hd, hnp, -⟩ := insOK_of hP hl2
    subst hnp
    obtain ⟨w1, w2, w3, w4⟩ := hs
    exact vn_d2l hx hb (hml.trans hl.1.symm) hnm (hts _ w1) (hts _ w2) (hts _ w3) (hts _ w4) hfr (by rw [cz_sum]; exact hlo) hd (hV H locs ls hW hS hl)
  · intro pc ix np tg cv b rest lv J K hl2 hs hfr hlo hV H locs ls hW hS hl
    obtain ⟨hd, hnp, -⟩ := insOK_of hP hl2
    subst hnp
    obtain ⟨w1, w2, w3, w4⟩ := hs
    exact vn_f2i hx hb (hml.trans hl.1.symm) hnm (hts _ w1) (hts _ w2) (hts _ w3) (hts _ w4) hfr (by rw [cz_sum]; exact hlo) hd (hV H locs ls hW hS hl)
/-- A CONTRACT OUT OF A WALK by the rules -/
theorem cr_of {l : Launch} {kd : KdT} {N : Nat} {y : MethodName} {cc : ByteArray} {nL : Nat} {ret : Option FieldType} {rm : Room} {own : String} {F : Ft} {P : List En} (hy : plainFor y = true) (hown : own = y.cls) (hkd : kdOK kd N) (hF : FOK own F) (hP : okP cc own P = true) (hloc : P.all (fun q => locB nL q.2.1) = true) (hrb : P.all (fun q => retB ret q.2.1) = true) {av : List Value} {I I2 : IM} {L L2 : LM} {r : Option Value} (hlen : Nat.ble (lg_sl av).length nL = true) (hz : ret = some .boolean → ∀ x, r = some (.int x) → x = 0 ∨ x = 1)
    (body : ∀ V : Nat → LV → List Value → IM → LM → Prop, Ru l kd N own cc rm F P V (fun st J K => st = r.toList ∧ J = I2 ∧ K = L2) → V 0 (lv_args 0 av) [] I L) : CR l kd N y cc nL ret rm av I L r I2 L2 := by
  intro D cy ad hinj
  refine met_ofWF (cc := cc) (maxL := nL) (ret := ret) hy rfl ?_
  intro p e s m args below meth c s₁ B hml hv
  obtain ⟨rfl, hW, hK⟩ := hv
  have hts : ∀ w ∈ WB, w.before (av.map (cz ad)).toArray s = true := fun w hw => atoms_spec (ws := wsY y cc nL ret) B.pre w (List.mem_cons_of_mem _ hw)
  have hnm : s.vm.findClass own = some m.cls := by rw [hown]; exact findClass_of_methodNamed B.named
  have hlocks := B.notSynchronized
  have hr := B.returns
  have hx := B.exec
  have hb := B.bytes
  have hC : Cx p s m (av.map (cz ad)).toArray c cc nL own D cy kd ad N := ⟨hx, hb, hml, hnm, hts, hK, hinj, hkd⟩
  have hl := lv_entry (av.map (cz ad)) (n := nL) (by rw [lgsl_map]; exact Nat.ble_eq.mp hlen)
  rw [lg_entry_eq]
  generalize (lg_sl (av.map (cz ad)) ++ List.replicate (nL - (lg_sl (av.map (cz ad))).length) Slot.unset).toArray = ls at hl ⊢
  rw [lvargs_map] at hl
  have hret : ∀ (pc : Nat) (ins : Instr) (lv : LV) (st : List Value) (J : IM) (K : LM), decode cc pc = .ok (ins, 1) → retB ret ins = true → ((ins = .ireturn ∧ ∃ x, st = [.int x]) ∨ (ins = .lreturn ∧ ∃ x, st = [.long x]) ∨ (ins = .freturn ∧ ∃ x, st = [.float x]) ∨ (ins = .dreturn ∧ ∃ x, st = [.double x]) ∨ (ins = .return_ ∧ st = [])) → (st = r.toList ∧ J = I2 ∧ K = L2) → VV p l e rm s m (av.map (cz ad)).toArray below meth c (MQ below (fun _ st oc t => (oc = .returned (r.map (cz ad)) ∧ wd D cy kd ad N I2 L2 t.heap) ∧ va_F (AA ad N) st t) (av.map (cz ad)).toArray s 0 0 (AA ad N)) nL D cy kd ad N pc lv st J K := by
    intro pc ins lv st J K hdg hrb1 hcase hE H locs ls hW hS hl
    obtain ⟨hst, rfl, rfl⟩ := hE
    rcases hcase with ⟨rfl, x, rfl⟩ | ⟨rfl, x, rfl⟩ | ⟨rfl, x, rfl⟩ | ⟨rfl, x, rfl⟩ | ⟨rfl, rfl⟩
    · have hrr : r = some (.int x) := by cases r <;> simp at hst; rw [hst]
      simp only [retB, Bool.or_eq_true, decide_eq_true_eq] at hrb1
      subst hrr
      rcases hrb1 with h | h
      · exact W.iret (v := x) hx hb (hr.trans h) (fun t ht hWm => ⟨⟨rfl, by rw [ht]; exact hW⟩, hS.F ht⟩) hS.2.2 hdg
      · exact W.zret (v := x) hx hb (hr.trans h) (by rcases hz h x rfl with rfl | rfl <;> decide) (fun t ht hWm => ⟨⟨rfl, by rw [ht]; exact hW⟩, hS.F ht⟩) hS.2.2 hdg
    · have hrr : r = some (.long x) := by cases r <;> simp at hst; rw [hst]
      simp only [retB, decide_eq_true_eq] at hrb1
      subst hrr
      exact W.lret (v := x) hx hb (hr.trans hrb1) (fun t ht hWm => ⟨⟨rfl, by rw [ht]; exact hW⟩, hS.F ht⟩) hS.2.2 hdg
    · have hrr : r = some (.float x) := by cases r <;> simp at hst; rw [hst]
      simp only [retB, decide_eq_true_eq] at hrb1
      subst hrr
      exact W.fret (v := x) hx hb (hr.trans hrb1) (fun t ht hWm => ⟨⟨rfl, by rw [ht]; exact hW⟩, hS.F ht⟩) hS.2.2 hdg
    · have hrr : r = some (.double x) := by cases r <;> simp at hst; rw [hst]
      simp only [retB, decide_eq_true_eq] at hrb1
      subst hrr
      exact W.dret (v := x) hx hb (hr.trans hrb1) (fun t ht hWm => ⟨⟨rfl, by rw [ht]; exact hW⟩, hS.F ht⟩) hS.2.2 hdg
    · have hrr : r = none := by cases r <;> simp at hst; rfl
      simp only [retB, decide_eq_true_eq] at hrb1
      subst hrr
      exact W.vret hx hb (hr.trans hrb1) (fun t ht hWm => ⟨⟨rfl, by rw [ht]; exact hW⟩, hS.F ht⟩) hS.2.2 hdg
  refine body (VV p l e rm s m (av.map (cz ad)).toArray below meth c (MQ below (fun _ st oc t => (oc = .returned (r.map (cz ad)) ∧ wd D cy kd ad N I2 L2 t.heap) ∧ va_F (AA ad N) st t) (av.map (cz ad)).toArray s 0 0 (AA ad N)) nL D cy kd ad N) (ru_of hC hF hP hloc hrb hret) s.heap [] ls hW va_S.rf hl
end
section
def tX0_ofFloat : List En := [(0, .fload_n 0, 1, 0, .null), (1, .fconst 0, 2, 0, .float 0), (2, .fcmp .g, 3, 0, .null), (3, .ifCond .gt 5, 6, 8, .null), (6, .iconst 0, 7, 0, .int (0)), (7, .ireturn, 8, 0, .null), (8, .fload_n 0, 9, 0, .null), (9, .fstore_n 1, 10, 0, .null), (10, .bipush 127, 12, 0, .int (127)), (12, .istore_n 2, 13, 0, .null), (13, .iconst 0, 14, 0, .int (0)), (14, .istore_n 3, 15, 0, .null), (15, .iload_n 3, 16, 0, .null), (16, .bipush 126, 18, 0, .int (126)), (18, .if_icmp .ge 22, 21, 40, .null), (21, .fload_n 1, 22, 0, .null), (22, .fconst 1, 23, 0, .float 1065353216), (23, .fcmp .g, 24, 0, .null), (24, .ifCond .ge 16, 27, 40, .null), (27, .fload_n 1, 28, 0, .null), (28, .fconst 2, 29, 0, .float 1073741824), (29, .fmul, 30, 0, .null), (30, .fstore_n 1, 31, 0, .null), (31, .iinc 2 (-1), 34, 0, .int (-1)), (34, .iinc 3 1, 37, 0, .int (1)), (37, .goto (-22), 40, 15, .null), (40, .iload_n 2, 41, 0, .null), (41, .bipush 23, 43, 0, .int (23)), (43, .ishl, 44, 0, .null), (44, .fload_n 1, 45, 0, .null), (45, .fconst 1, 46, 0, .float 1065353216), (46, .fsub, 47, 0, .null), (47, .ldc 7, 49, 0, .float (1258291200)), (49, .fmul, 50, 0, .null), (50, .f2i, 51, 0, .null), (51, .iadd, 52, 0, .null), (52, .ireturn, 53, 0, .null)]
theorem okX0_ofFloat : okP cX0_ofFloat RX0 tX0_ofFloat = true := by decide +kernel
def tX0_ofDouble : List En := [(0, .dload_n 0, 1, 0, .null), (1, .dconst 0, 2, 0, .double 0), (2, .dcmp .g, 3, 0, .null), (3, .ifCond .gt 5, 6, 8, .null), (6, .lconst 0, 7, 0, .long 0), (7, .lreturn, 8, 0, .null), (8, .dload_n 0, 9, 0, .null), (9, .dstore_n 2, 10, 0, .null), (10, .ldc2_w 8, 13, 0, .long (1023)), (13, .lstore 4, 15, 0, .null), (15, .iconst 0, 16, 0, .int (0)), (16, .istore 6, 18, 0, .null), (18, .iload 6, 20, 0, .null), (20, .sipush 1022, 23, 0, .int (1022)), (23, .if_icmp .ge 27, 26, 50, .null), (26, .dload_n 2, 27, 0, .null), (27, .dconst 1, 28, 0, .double 4607182418800017408), (28, .dcmp .g, 29, 0, .null), (29, .ifCond .ge 21, 32, 50, .null), (32, .dload_n 2, 33, 0, .null), (33, .ldc2_w 10, 36, 0, .double (4611686018427387904)), (36, .dmul, 37, 0, .null), (37, .dstore_n 2, 38, 0, .null), (38, .lload 4, 40, 0, .null), (40, .lconst 1, 41, 0, .long 1), (41, .lsub, 42, 0, .null), (42, .lstore 4, 44, 0, .null), (44, .iinc 6 1, 47, 0, .int (1)), (47, .goto (-29), 50, 18, .null), (50, .lload 4, 52, 0, .null), (52, .bipush 52, 54, 0, .int (52)), (54, .lshl, 55, 0, .null), (55, .dload_n 2, 56, 0, .null), (56, .dconst 1, 57, 0, .double 4607182418800017408), (57, .dsub, 58, 0, .null), (58, .ldc2_w 12, 61, 0, .double (4841369599423283200)), (61, .dmul, 62, 0, .null), (62, .d2l, 63, 0, .null), (63, .ladd, 64, 0, .null), (64, .lreturn, 65, 0, .null)]
theorem okX0_ofDouble : okP cX0_ofDouble RX0 tX0_ofDouble = true := by decide +kernel
def tX1_init : List En := [(0, .aload_n 0, 1, 0, .null), (1, .invokespecial 3, 4, 0, .null), (4, .aload_n 0, 5, 0, .null), (5, .bipush 32, 7, 0, .int (32)), (7, .newarray .int, 9, 0, .null), (9, .putfield 9, 12, 0, .null), (12, .aload_n 0, 13, 0, .null), (13, .iconst 0, 14, 0, .int (0)), (14, .putfield 15, 17, 0, .null), (17, .return_, 18, 0, .null)]
theorem okX1_init : okP cX1_init RX1 tX1_init = true := by decide +kernel
def tX1_read : List En := [(0, .aload_n 0, 1, 0, .null), (1, .iload_n 3, 2, 0, .null), (2, .invokevirtual 19, 5, 0, .null), (5, .iconst 0, 6, 0, .int (0)), (6, .istore 4, 8, 0, .null), (8, .iload 4, 10, 0, .null), (10, .iload_n 2, 11, 0, .null), (11, .if_icmp .ge 23, 14, 34, .null), (14, .aload_n 0, 15, 0, .null), (15, .aload_n 1, 16, 0, .null), (16, .iload 4, 18, 0, .null), (18, .iaload, 19, 0, .null), (19, .invokevirtual 23, 22, 0, .null), (22, .ifCond .ne 6, 25, 28, .null), (25, .iload 4, 27, 0, .null), (27, .ireturn, 28, 0, .null), (28, .iinc 4 1, 31, 0, .int (1)), (31, .goto (-23), 34, 8, .null), (34, .aload_n 0, 35, 0, .null), (35, .getfield 15, 38, 0, .null), (38, .iconst 3, 39, 0, .int (3)), (39, .if_icmp .eq 11, 42, 50, .null), (42, .aload_n 0, 43, 0, .null), (43, .getfield 15, 46, 0, .null), (46, .iconst 5, 47, 0, .int (5)), (47, .if_icmp .ne 7, 50, 54, .null), (50, .aload_n 0, 51, 0, .null), (51, .invokevirtual 27, 54, 0, .null), (54, .iload_n 2, 55, 0, .null), (55, .ireturn, 56, 0, .null)]
theorem okX1_read : okP cX1_read RX1 tX1_read = true := by decide +kernel
def tX1_isComplete : List En := [(0, .aload_n 0, 1, 0, .null), (1, .getfield 15, 4, 0, .null), (4, .iconst 2, 5, 0, .int (2)), (5, .if_icmp .eq 19, 8, 24, .null), (8, .aload_n 0, 9, 0, .null), (9, .getfield 15, 12, 0, .null), (12, .iconst 3, 13, 0, .int (3)), (13, .if_icmp .eq 11, 16, 24, .null), (16, .aload_n 0, 17, 0, .null), (17, .getfield 15, 20, 0, .null), (20, .iconst 5, 21, 0, .int (5)), (21, .if_icmp .ne 7, 24, 28, .null), (24, .iconst 1, 25, 0, .int (1)), (25, .goto 4, 28, 29, .null), (28, .iconst 0, 29, 0, .int (0)), (29, .ireturn, 30, 0, .null)]
theorem okX1_isComplete : okP cX1_isComplete RX1 tX1_isComplete = true := by decide +kernel
def tX1_start : List En := [(0, .aload_n 0, 1, 0, .null), (1, .iload_n 1, 2, 0, .null), (2, .putfield 30, 5, 0, .null), (5, .aload_n 0, 6, 0, .null), (6, .iconst 0, 7, 0, .int (0)), (7, .putfield 15, 10, 0, .null), (10, .iconst 0, 11, 0, .int (0)), (11, .istore_n 2, 12, 0, .null), (12, .iload_n 2, 13, 0, .null), (13, .bipush 32, 15, 0, .int (32)), (15, .if_icmp .ge 16, 18, 31, .null), (18, .aload_n 0, 19, 0, .null), (19, .getfield 9, 22, 0, .null), (22, .iload_n 2, 23, 0, .null), (23, .iconst 0, 24, 0, .int (0)), (24, .iastore, 25, 0, .null), (25, .iinc 2 1, 28, 0, .int (1)), (28, .goto (-16), 31, 12, .null), (31, .aload_n 0, 32, 0, .null), (32, .iconst 0, 33, 0, .int (0)), (33, .invokevirtual 33, 36, 0, .null), (36, .return_, 37, 0, .null)]
theorem okX1_start : okP cX1_start RX1 tX1_start = true := by decide +kernel
def tX1_startTerm : List En := [(0, .aload_n 0, 1, 0, .null), (1, .iload_n 1, 2, 0, .null), (2, .putfield 37, 5, 0, .null), (5, .aload_n 0, 6, 0, .null), (6, .iconst 1, 7, 0, .int (1)), (7, .putfield 41, 10, 0, .null), (10, .aload_n 0, 11, 0, .null), (11, .iconst 0, 12, 0, .int (0)), (12, .putfield 44, 15, 0, .null), (15, .return_, 16, 0, .null)]
theorem okX1_startTerm : okP cX1_startTerm RX1 tX1_startTerm = true := by decide +kernel
def tX1_addTerm : List En := [(0, .aload_n 0, 1, 0, .null), (1, .getfield 9, 4, 0, .null), (4, .aload_n 0, 5, 0, .null), (5, .getfield 44, 8, 0, .null), (8, .dup2, 9, 0, .null), (9, .iaload, 10, 0, .null), (10, .aload_n 0, 11, 0, .null), (11, .getfield 37, 14, 0, .null), (14, .ifCond .eq 11, 17, 25, .null), (17, .aload_n 0, 18, 0, .null), (18, .getfield 41, 21, 0, .null), (21, .ineg, 22, 0, .null), (22, .goto 7, 25, 29, .null), (25, .aload_n 0, 26, 0, .null), (26, .getfield 41, 29, 0, .null), (29, .iadd, 30, 0, .null), (30, .iastore, 31, 0, .null), (31, .return_, 32, 0, .null)]
theorem okX1_addTerm : okP cX1_addTerm RX1 tX1_addTerm = true := by decide +kernel
def tX1_accepts : List En := [(0, .iload_n 1, 1, 0, .null), (1, .bipush 43, 3, 0, .int (43)), (3, .if_icmp .eq 9, 6, 12, .null), (6, .iload_n 1, 7, 0, .null), (7, .bipush 45, 9, 0, .int (45)), (9, .if_icmp .ne 19, 12, 28, .null), (12, .aload_n 0, 13, 0, .null), (13, .iload_n 1, 14, 0, .null), (14, .bipush 45, 16, 0, .int (45)), (16, .if_icmp .ne 7, 19, 23, .null), (19, .iconst 1, 20, 0, .int (1)), (20, .goto 4, 23, 24, .null), (23, .iconst 0, 24, 0, .int (0)), (24, .invokevirtual 47, 27, 0, .null), (27, .ireturn, 28, 0, .null), (28, .iload_n 1, 29, 0, .null), (29, .bipush 101, 31, 0, .int (101)), (31, .if_icmp .ne 8, 34, 39, .null), (34, .aload_n 0, 35, 0, .null), (35, .invokevirtual 51, 38, 0, .null), (38, .ireturn, 39, 0, .null), (39, .iload_n 1, 40, 0, .null), (40, .bipush 48, 42, 0, .int (48)), (42, .if_icmp .lt 24, 45, 66, .null), (45, .iload_n 1, 46, 0, .null), (46, .bipush 57, 48, 0, .int (57)), (48, .if_icmp .gt 18, 51, 66, .null), (51, .aload_n 0, 52, 0, .null), (52, .iload_n 1, 53, 0, .null), (53, .bipush 48, 55, 0, .int (48)), (55, .isub, 56, 0, .null), (56, .invokevirtual 55, 59, 0, .null), (59, .ifCond .eq 7, 62, 66, .null), (62, .iconst 1, 63, 0, .int (1)), (63, .goto 4, 66, 67, .null), (66, .iconst 0, 67, 0, .int (0)), (67, .ireturn, 68, 0, .null)]
theorem okX1_accepts : okP cX1_accepts RX1 tX1_accepts = true := by decide +kernel
def tX1_acceptsSign : List En := [(0, .aload_n 0, 1, 0, .null), (1, .getfield 15, 4, 0, .null), (4, .iconst 3, 5, 0, .int (3)), (5, .if_icmp .eq 11, 8, 16, .null), (8, .aload_n 0, 9, 0, .null), (9, .getfield 15, 12, 0, .null), (12, .iconst 5, 13, 0, .int (5)), (13, .if_icmp .ne 10, 16, 23, .null), (16, .aload_n 0, 17, 0, .null), (17, .invokevirtual 27, 20, 0, .null), (20, .goto 16, 23, 36, .null), (23, .aload_n 0, 24, 0, .null), (24, .getfield 15, 27, 0, .null), (27, .ifCond .ne 7, 30, 34, .null), (30, .iload_n 1, 31, 0, .null), (31, .ifCond .ne 5, 34, 36, .null), (34, .iconst 0, 35, 0, .int (0)), (35, .ireturn, 36, 0, .null), (36, .aload_n 0, 37, 0, .null), (37, .iload_n 1, 38, 0, .null), (38, .invokevirtual 33, 41, 0, .null), (41, .aload_n 0, 42, 0, .null), (42, .iconst 1, 43, 0, .int (1)), (43, .putfield 15, 46, 0, .null), (46, .iconst 1, 47, 0, .int (1)), (47, .ireturn, 48, 0, .null)]
theorem okX1_acceptsSign : okP cX1_acceptsSign RX1 tX1_acceptsSign = true := by decide +kernel
def tX1_acceptsLetter : List En := [(0, .aload_n 0, 1, 0, .null), (1, .getfield 15, 4, 0, .null), (4, .ifCond .eq 21, 7, 25, .null), (7, .aload_n 0, 8, 0, .null), (8, .getfield 15, 11, 0, .null), (11, .iconst 1, 12, 0, .int (1)), (12, .if_icmp .eq 13, 15, 25, .null), (15, .aload_n 0, 16, 0, .null), (16, .getfield 15, 19, 0, .null), (19, .iconst 3, 20, 0, .int (3)), (20, .if_icmp .eq 5, 23, 25, .null), (23, .iconst 0, 24, 0, .int (0)), (24, .ireturn, 25, 0, .null), (25, .aload_n 0, 26, 0, .null), (26, .iconst 4, 27, 0, .int (4)), (27, .putfield 15, 30, 0, .null), (30, .iconst 1, 31, 0, .int (1)), (31, .ireturn, 32, 0, .null)]
theorem okX1_acceptsLetter : okP cX1_acceptsLetter RX1 tX1_acceptsLetter = true := by decide +kernel
def tX1_acceptsDigit : List En := [(0, .aload_n 0, 1, 0, .null), (1, .getfield 15, 4, 0, .null), (44, .iload_n 1, 45, 0, .null), (45, .ifCond .ne 10, 48, 55, .null), (48, .aload_n 0, 49, 0, .null), (49, .iconst 2, 50, 0, .int (2)), (50, .putfield 15, 53, 0, .null), (53, .iconst 1, 54, 0, .int (1)), (54, .ireturn, 55, 0, .null), (55, .aload_n 0, 56, 0, .null), (56, .iload_n 1, 57, 0, .null), (57, .invokevirtual 58, 60, 0, .null), (60, .ireturn, 61, 0, .null), (61, .aload_n 0, 62, 0, .null), (62, .iload_n 1, 63, 0, .null), (63, .invokevirtual 58, 66, 0, .null), (66, .ireturn, 67, 0, .null), (67, .aload_n 0, 68, 0, .null), (68, .getfield 41, 71, 0, .null), (71, .sipush 9999, 74, 0, .int (9999)), (74, .if_icmp .le 5, 77, 79, .null), (77, .iconst 0, 78, 0, .int (0)), (78, .ireturn, 79, 0, .null), (79, .aload_n 0, 80, 0, .null), (80, .aload_n 0, 81, 0, .null), (81, .getfield 41, 84, 0, .null), (84, .bipush 10, 86, 0, .int (10)), (86, .imul, 87, 0, .null), (87, .iload_n 1, 88, 0, .null), (88, .iadd, 89, 0, .null), (89, .putfield 41, 92, 0, .null), (92, .iconst 1, 93, 0, .int (1)), (93, .ireturn, 94, 0, .null), (94, .aload_n 0, 95, 0, .null), (95, .iload_n 1, 96, 0, .null), (96, .invokevirtual 61, 99, 0, .null), (99, .ireturn, 100, 0, .null), (100, .iconst 0, 101, 0, .int (0)), (101, .ireturn, 102, 0, .null)]
theorem okX1_acceptsDigit : okP cX1_acceptsDigit RX1 tX1_acceptsDigit = true := by decide +kernel
theorem swX1_acceptsDigit_4 : decode cX1_acceptsDigit 4 = .ok (.tableswitch 96 0 5 #[40, 57, 96, 63, 90, 90], 40) := by decide +kernel
def tX1_acceptsFirstDigit : List En := [(0, .iload_n 1, 1, 0, .null), (1, .ifCond .ne 5, 4, 6, .null), (4, .iconst 0, 5, 0, .int (0)), (5, .ireturn, 6, 0, .null), (6, .aload_n 0, 7, 0, .null), (7, .iload_n 1, 8, 0, .null), (8, .putfield 41, 11, 0, .null), (11, .aload_n 0, 12, 0, .null), (12, .iconst 3, 13, 0, .int (3)), (13, .putfield 15, 16, 0, .null), (16, .iconst 1, 17, 0, .int (1)), (17, .ireturn, 18, 0, .null)]
theorem okX1_acceptsFirstDigit : okP cX1_acceptsFirstDigit RX1 tX1_acceptsFirstDigit = true := by decide +kernel
def tX1_acceptsDirection : List En := [(0, .iload_n 1, 1, 0, .null), (1, .aload_n 0, 2, 0, .null), (2, .getfield 30, 5, 0, .null), (5, .if_icmp .ge 12, 8, 17, .null), (8, .aload_n 0, 9, 0, .null), (9, .getfield 44, 12, 0, .null), (12, .iload_n 1, 13, 0, .null), (13, .ishr, 14, 0, .null), (14, .ifCond .eq 5, 17, 19, .null), (17, .iconst 0, 18, 0, .int (0)), (18, .ireturn, 19, 0, .null), (19, .aload_n 0, 20, 0, .null), (20, .dup, 21, 0, .null), (21, .getfield 44, 24, 0, .null), (24, .iconst 1, 25, 0, .int (1)), (25, .iload_n 1, 26, 0, .null), (26, .ishl, 27, 0, .null), (27, .ior, 28, 0, .null), (28, .putfield 44, 31, 0, .null), (31, .aload_n 0, 32, 0, .null), (32, .iconst 5, 33, 0, .int (5)), (33, .putfield 15, 36, 0, .null), (36, .iconst 1, 37, 0, .int (1)), (37, .ireturn, 38, 0, .null)]
theorem okX1_acceptsDirection : okP cX1_acceptsDirection RX1 tX1_acceptsDirection = true := by decide +kernel
def tX2_property : List En := [(0, .iload_n 1, 1, 0, .null), (44, .aload_n 0, 45, 0, .null), (45, .invokestatic 9, 48, 0, .null), (48, .ireturn, 49, 0, .null), (49, .aload_n 0, 50, 0, .null), (50, .invokestatic 15, 53, 0, .null), (53, .ireturn, 54, 0, .null), (54, .aload_n 0, 55, 0, .null), (55, .invokestatic 18, 58, 0, .null), (58, .ireturn, 59, 0, .null), (59, .aload_n 0, 60, 0, .null), (60, .invokestatic 21, 63, 0, .null), (63, .ireturn, 64, 0, .null), (64, .aload_n 0, 65, 0, .null), (65, .invokestatic 24, 68, 0, .null), (68, .ireturn, 69, 0, .null), (69, .aload_n 0, 70, 0, .null), (70, .invokestatic 27, 73, 0, .null), (73, .ireturn, 74, 0, .null), (74, .aload_n 0, 75, 0, .null), (75, .invokestatic 30, 78, 0, .null), (78, .ireturn, 79, 0, .null), (79, .aload_n 0, 80, 0, .null), (80, .invokestatic 33, 83, 0, .null), (83, .ireturn, 84, 0, .null)]
theorem okX2_property : okP cX2_property RX2 tX2_property = true := by decide +kernel
theorem swX2_property_1 : decode cX2_property 1 = .ok (.tableswitch 78 0 6 #[43, 48, 53, 58, 63, 68, 73], 43) := by decide +kernel
def tX2_countNonzero : List En := [(0, .iconst 0, 1, 0, .int (0)), (1, .istore_n 1, 2, 0, .null), (2, .iconst 0, 3, 0, .int (0)), (3, .istore_n 2, 4, 0, .null), (4, .iload_n 2, 5, 0, .null), (5, .bipush 32, 7, 0, .int (32)), (7, .if_icmp .ge 18, 10, 25, .null), (10, .aload_n 0, 11, 0, .null), (11, .iload_n 2, 12, 0, .null), (12, .iaload, 13, 0, .null), (13, .ifCond .eq 6, 16, 19, .null), (16, .iinc 1 1, 19, 0, .int (1)), (19, .iinc 2 1, 22, 0, .int (1)), (22, .goto (-18), 25, 4, .null), (25, .iload_n 1, 26, 0, .null), (26, .ireturn, 27, 0, .null)]
theorem okX2_countNonzero : okP cX2_countNonzero RX2 tX2_countNonzero = true := by decide +kernel
def tX2_gradeOf : List En := [(0, .aload_n 0, 1, 0, .null), (1, .invokestatic 18, 4, 0, .null), (4, .istore_n 1, 5, 0, .null), (5, .iload_n 1, 6, 0, .null), (6, .aload_n 0, 7, 0, .null), (7, .invokestatic 21, 10, 0, .null), (10, .if_icmp .ne 7, 13, 17, .null), (13, .iload_n 1, 14, 0, .null), (14, .goto 5, 17, 19, .null), (17, .ldc 36, 19, 0, .int (-1000000000)), (19, .ireturn, 20, 0, .null)]
theorem okX2_gradeOf : okP cX2_gradeOf RX2 tX2_gradeOf = true := by decide +kernel
def tX2_lowestGrade : List En := [(0, .ldc 36, 2, 0, .int (-1000000000)), (2, .istore_n 1, 3, 0, .null), (3, .iconst 0, 4, 0, .int (0)), (4, .istore_n 2, 5, 0, .null), (5, .iload_n 2, 6, 0, .null), (6, .bipush 32, 8, 0, .int (32)), (8, .if_icmp .ge 34, 11, 42, .null), (11, .aload_n 0, 12, 0, .null), (12, .iload_n 2, 13, 0, .null), (13, .iaload, 14, 0, .null), (14, .ifCond .eq 22, 17, 36, .null), (17, .iload_n 1, 18, 0, .null), (18, .ldc 36, 20, 0, .int (-1000000000)), (20, .if_icmp .eq 11, 23, 31, .null), (23, .iload_n 2, 24, 0, .null), (24, .invokestatic 37, 27, 0, .null), (27, .iload_n 1, 28, 0, .null), (28, .if_icmp .ge 8, 31, 36, .null), (31, .iload_n 2, 32, 0, .null), (32, .invokestatic 37, 35, 0, .null), (35, .istore_n 1, 36, 0, .null), (36, .iinc 2 1, 39, 0, .int (1)), (39, .goto (-34), 42, 5, .null), (42, .iload_n 1, 43, 0, .null), (43, .ireturn, 44, 0, .null)]
theorem okX2_lowestGrade : okP cX2_lowestGrade RX2 tX2_lowestGrade = true := by decide +kernel
def tX2_highestGrade : List En := [(0, .ldc 36, 2, 0, .int (-1000000000)), (2, .istore_n 1, 3, 0, .null), (3, .iconst 0, 4, 0, .int (0)), (4, .istore_n 2, 5, 0, .null), (5, .iload_n 2, 6, 0, .null), (6, .bipush 32, 8, 0, .int (32)), (8, .if_icmp .ge 28, 11, 36, .null), (11, .aload_n 0, 12, 0, .null), (12, .iload_n 2, 13, 0, .null), (13, .iaload, 14, 0, .null), (14, .ifCond .eq 16, 17, 30, .null), (17, .iload_n 2, 18, 0, .null), (18, .invokestatic 37, 21, 0, .null), (21, .iload_n 1, 22, 0, .null), (22, .if_icmp .le 8, 25, 30, .null), (25, .iload_n 2, 26, 0, .null), (26, .invokestatic 37, 29, 0, .null), (29, .istore_n 1, 30, 0, .null), (30, .iinc 2 1, 33, 0, .int (1)), (33, .goto (-28), 36, 5, .null), (36, .iload_n 1, 37, 0, .null), (37, .ireturn, 38, 0, .null)]
theorem okX2_highestGrade : okP cX2_highestGrade RX2 tX2_highestGrade = true := by decide +kernel
def tX2_greatestSize : List En := [(0, .iconst 0, 1, 0, .int (0)), (1, .istore_n 1, 2, 0, .null), (2, .iconst 0, 3, 0, .int (0)), (3, .istore_n 2, 4, 0, .null), (4, .iload_n 2, 5, 0, .null), (5, .bipush 32, 7, 0, .int (32)), (7, .if_icmp .ge 20, 10, 27, .null), (10, .iload_n 1, 11, 0, .null), (11, .aload_n 0, 12, 0, .null), (12, .iload_n 2, 13, 0, .null), (13, .iaload, 14, 0, .null), (14, .invokestatic 43, 17, 0, .null), (17, .invokestatic 48, 20, 0, .null), (20, .istore_n 1, 21, 0, .null), (21, .iinc 2 1, 24, 0, .int (1)), (24, .goto (-20), 27, 4, .null), (27, .iload_n 1, 28, 0, .null), (28, .ireturn, 29, 0, .null)]
theorem okX2_greatestSize : okP cX2_greatestSize RX2 tX2_greatestSize = true := by decide +kernel
def tX2_leadOf : List En := [(0, .iconst 0, 1, 0, .int (0)), (1, .istore_n 1, 2, 0, .null), (2, .iload_n 1, 3, 0, .null), (3, .bipush 32, 5, 0, .int (32)), (5, .if_icmp .ge 17, 8, 22, .null), (8, .aload_n 0, 9, 0, .null), (9, .iload_n 1, 10, 0, .null), (10, .iaload, 11, 0, .null), (11, .ifCond .eq 5, 14, 16, .null), (14, .iload_n 1, 15, 0, .null), (15, .ireturn, 16, 0, .null), (16, .iinc 1 1, 19, 0, .int (1)), (19, .goto (-17), 22, 2, .null), (22, .ldc 36, 24, 0, .int (-1000000000)), (24, .ireturn, 25, 0, .null)]
theorem okX2_leadOf : okP cX2_leadOf RX2 tX2_leadOf = true := by decide +kernel
def tX2_leadCoefficient : List En := [(0, .aload_n 0, 1, 0, .null), (1, .invokestatic 27, 4, 0, .null), (4, .istore_n 1, 5, 0, .null), (5, .iload_n 1, 6, 0, .null), (6, .ifCond .lt 9, 9, 15, .null), (9, .aload_n 0, 10, 0, .null), (10, .iload_n 1, 11, 0, .null), (11, .iaload, 12, 0, .null), (12, .goto 5, 15, 17, .null), (15, .ldc 36, 17, 0, .int (-1000000000)), (17, .ireturn, 18, 0, .null)]
theorem okX2_leadCoefficient : okP cX2_leadCoefficient RX2 tX2_leadCoefficient = true := by decide +kernel
def tX2_directionsOf : List En := [(0, .iconst 0, 1, 0, .int (0)), (1, .istore_n 1, 2, 0, .null), (2, .iconst 0, 3, 0, .int (0)), (3, .istore_n 2, 4, 0, .null), (4, .iload_n 2, 5, 0, .null), (5, .bipush 32, 7, 0, .int (32)), (7, .if_icmp .ge 19, 10, 26, .null), (10, .aload_n 0, 11, 0, .null), (11, .iload_n 2, 12, 0, .null), (12, .iaload, 13, 0, .null), (13, .ifCond .eq 7, 16, 20, .null), (16, .iload_n 1, 17, 0, .null), (17, .iload_n 2, 18, 0, .null), (18, .ior, 19, 0, .null), (19, .istore_n 1, 20, 0, .null), (20, .iinc 2 1, 23, 0, .int (1)), (23, .goto (-19), 26, 4, .null), (26, .iload_n 1, 27, 0, .null), (27, .ireturn, 28, 0, .null)]
theorem okX2_directionsOf : okP cX2_directionsOf RX2 tX2_directionsOf = true := by decide +kernel
def tX2_areSame : List En := [(0, .iconst 0, 1, 0, .int (0)), (1, .istore_n 2, 2, 0, .null), (2, .iload_n 2, 3, 0, .null), (3, .bipush 32, 5, 0, .int (32)), (5, .if_icmp .ge 20, 8, 25, .null), (8, .aload_n 0, 9, 0, .null), (9, .iload_n 2, 10, 0, .null), (10, .iaload, 11, 0, .null), (11, .aload_n 1, 12, 0, .null), (12, .iload_n 2, 13, 0, .null), (13, .iaload, 14, 0, .null), (14, .if_icmp .eq 5, 17, 19, .null), (17, .iconst 0, 18, 0, .int (0)), (18, .ireturn, 19, 0, .null), (19, .iinc 2 1, 22, 0, .int (1)), (22, .goto (-20), 25, 2, .null), (25, .iconst 1, 26, 0, .int (1)), (26, .ireturn, 27, 0, .null)]
theorem okX2_areSame : okP cX2_areSame RX2 tX2_areSame = true := by decide +kernel
def tX2_areProportional : List En := [(0, .aload_n 0, 1, 0, .null), (1, .invokestatic 27, 4, 0, .null), (4, .istore_n 2, 5, 0, .null), (5, .iload_n 2, 6, 0, .null), (6, .ifCond .lt 9, 9, 15, .null), (9, .aload_n 1, 10, 0, .null), (10, .iload_n 2, 11, 0, .null), (11, .iaload, 12, 0, .null), (12, .ifCond .ne 5, 15, 17, .null), (15, .iconst 0, 16, 0, .int (0)), (16, .ireturn, 17, 0, .null), (17, .iconst 0, 18, 0, .int (0)), (18, .istore_n 3, 19, 0, .null), (19, .iload_n 3, 20, 0, .null), (20, .bipush 32, 22, 0, .int (32)), (22, .if_icmp .ge 33, 25, 55, .null), (25, .aload_n 0, 26, 0, .null), (26, .iload_n 3, 27, 0, .null), (27, .iaload, 28, 0, .null), (28, .i2l, 29, 0, .null), (29, .aload_n 1, 30, 0, .null), (30, .iload_n 2, 31, 0, .null), (31, .iaload, 32, 0, .null), (32, .i2l, 33, 0, .null), (33, .lmul, 34, 0, .null), (34, .aload_n 1, 35, 0, .null), (35, .iload_n 3, 36, 0, .null), (36, .iaload, 37, 0, .null), (37, .i2l, 38, 0, .null), (38, .aload_n 0, 39, 0, .null), (39, .iload_n 2, 40, 0, .null), (40, .iaload, 41, 0, .null), (41, .i2l, 42, 0, .null), (42, .lmul, 43, 0, .null), (43, .lcmp, 44, 0, .null), (44, .ifCond .eq 5, 47, 49, .null), (47, .iconst 0, 48, 0, .int (0)), (48, .ireturn, 49, 0, .null), (49, .iinc 3 1, 52, 0, .int (1)), (52, .goto (-33), 55, 19, .null), (55, .iconst 1, 56, 0, .int (1)), (56, .ireturn, 57, 0, .null)]
theorem okX2_areProportional : okP cX2_areProportional RX2 tX2_areProportional = true := by decide +kernel
def tX2_partnerNumber : List En := [(0, .iconst 1, 1, 0, .int (1)), (1, .iload_n 2, 2, 0, .null), (2, .ishl, 3, 0, .null), (3, .istore_n 3, 4, 0, .null), (4, .iload_n 1, 5, 0, .null), (5, .iload_n 3, 6, 0, .null), (6, .iand, 7, 0, .null), (7, .ifCond .eq 5, 10, 12, .null), (10, .iconst 0, 11, 0, .int (0)), (11, .ireturn, 12, 0, .null), (12, .aload_n 0, 13, 0, .null), (13, .iload_n 1, 14, 0, .null), (14, .iload_n 3, 15, 0, .null), (15, .ior, 16, 0, .null), (16, .iaload, 17, 0, .null), (17, .istore 4, 19, 0, .null), (19, .iload_n 1, 20, 0, .null), (20, .iload_n 3, 21, 0, .null), (21, .invokestatic 52, 24, 0, .null), (24, .ifCond .eq 9, 27, 33, .null), (27, .iload 4, 29, 0, .null), (29, .ineg, 30, 0, .null), (30, .goto 5, 33, 35, .null), (33, .iload 4, 35, 0, .null), (35, .ireturn, 36, 0, .null)]
theorem okX2_partnerNumber : okP cX2_partnerNumber RX2 tX2_partnerNumber = true := by decide +kernel
def tX2_factorNumber : List En := [(0, .aload_n 0, 1, 0, .null), (1, .invokestatic 27, 4, 0, .null), (4, .istore_n 3, 5, 0, .null), (5, .iload_n 3, 6, 0, .null), (6, .ifCond .ge 6, 9, 12, .null), (9, .ldc 36, 11, 0, .int (-1000000000)), (11, .ireturn, 12, 0, .null), (12, .iload_n 1, 13, 0, .null), (13, .istore 4, 15, 0, .null), (15, .iconst 0, 16, 0, .int (0)), (16, .istore 5, 18, 0, .null), (18, .iload 5, 20, 0, .null), (20, .iconst 5, 21, 0, .int (5)), (21, .if_icmp .ge 62, 24, 83, .null), (24, .iconst 1, 25, 0, .int (1)), (25, .iload 5, 27, 0, .null), (27, .ishl, 28, 0, .null), (28, .istore 6, 30, 0, .null), (30, .iload_n 3, 31, 0, .null), (31, .iload 6, 33, 0, .null), (33, .iand, 34, 0, .null), (34, .ifCond .ne 6, 37, 40, .null), (37, .goto 40, 40, 77, .null), (40, .iload 4, 42, 0, .null), (42, .ifCond .ne 32, 45, 74, .null), (45, .aload_n 0, 46, 0, .null), (46, .iload_n 3, 47, 0, .null), (47, .iload 6, 49, 0, .null), (49, .ixor, 50, 0, .null), (50, .iload_n 2, 51, 0, .null), (51, .invokestatic 58, 54, 0, .null), (54, .istore 7, 56, 0, .null), (56, .iload_n 3, 57, 0, .null), (57, .iload 6, 59, 0, .null), (59, .invokestatic 52, 62, 0, .null), (62, .ifCond .eq 9, 65, 71, .null), (65, .iload 7, 67, 0, .null), (67, .ineg, 68, 0, .null), (68, .goto 5, 71, 73, .null), (71, .iload 7, 73, 0, .null), (73, .ireturn, 74, 0, .null), (74, .iinc 4 (-1), 77, 0, .int (-1)), (77, .iinc 5 1, 80, 0, .int (1)), (80, .goto (-62), 83, 18, .null), (83, .ldc 36, 85, 0, .int (-1000000000)), (85, .ireturn, 86, 0, .null)]
theorem okX2_factorNumber : okP cX2_factorNumber RX2 tX2_factorNumber = true := by decide +kernel
def tX2_densityOf : List En := [(0, .aload_n 0, 1, 0, .null), (1, .invokestatic 18, 4, 0, .null), (4, .istore_n 2, 5, 0, .null), (5, .aload_n 0, 6, 0, .null), (6, .invokestatic 21, 9, 0, .null), (9, .istore_n 3, 10, 0, .null), (10, .iconst 0, 11, 0, .int (0)), (11, .istore 4, 13, 0, .null), (13, .iconst 0, 14, 0, .int (0)), (14, .istore 5, 16, 0, .null), (16, .iload 5, 18, 0, .null), (18, .iload_n 1, 19, 0, .null), (19, .if_icmp .ge 31, 22, 50, .null), (22, .iload 5, 24, 0, .null), (24, .invokestatic 37, 27, 0, .null), (27, .istore 6, 29, 0, .null), (29, .iload 6, 31, 0, .null), (31, .iload_n 2, 32, 0, .null), (32, .if_icmp .lt 12, 35, 44, .null), (35, .iload 6, 37, 0, .null), (37, .iload_n 3, 38, 0, .null), (38, .if_icmp .gt 6, 41, 44, .null), (41, .iinc 4 1, 44, 0, .int (1)), (44, .iinc 5 1, 47, 0, .int (1)), (47, .goto (-31), 50, 16, .null), (50, .iload 4, 52, 0, .null), (52, .ifCond .ne 7, 55, 59, .null), (55, .fconst 0, 56, 0, .float 0), (56, .goto 12, 59, 68, .null), (59, .aload_n 0, 60, 0, .null), (60, .invokestatic 9, 63, 0, .null), (63, .i2f, 64, 0, .null), (64, .iload 4, 66, 0, .null), (66, .i2f, 67, 0, .null), (67, .fdiv, 68, 0, .null), (68, .freturn, 69, 0, .null)]
theorem okX2_densityOf : okP cX2_densityOf RX2 tX2_densityOf = true := by decide +kernel
def tX2_shareOf : List En := [(0, .lconst 0, 1, 0, .long 0), (1, .lstore_n 2, 2, 0, .null), (2, .lconst 0, 3, 0, .long 0), (3, .lstore 4, 5, 0, .null), (5, .iconst 0, 6, 0, .int (0)), (6, .istore 6, 8, 0, .null), (8, .iload 6, 10, 0, .null), (10, .bipush 32, 12, 0, .int (32)), (12, .if_icmp .ge 40, 15, 52, .null), (15, .aload_n 0, 16, 0, .null), (16, .iload 6, 18, 0, .null), (18, .iaload, 19, 0, .null), (19, .invokestatic 43, 22, 0, .null), (22, .i2l, 23, 0, .null), (23, .lstore 7, 25, 0, .null), (25, .lload 4, 27, 0, .null), (27, .lload 7, 29, 0, .null), (29, .ladd, 30, 0, .null), (30, .lstore 4, 32, 0, .null), (32, .iload 6, 34, 0, .null), (34, .invokestatic 37, 37, 0, .null), (37, .iload_n 1, 38, 0, .null), (38, .if_icmp .ne 8, 41, 46, .null), (41, .lload_n 2, 42, 0, .null), (42, .lload 7, 44, 0, .null), (44, .ladd, 45, 0, .null), (45, .lstore_n 2, 46, 0, .null), (46, .iinc 6 1, 49, 0, .int (1)), (49, .goto (-41), 52, 8, .null), (52, .lload 4, 54, 0, .null), (54, .lconst 0, 55, 0, .long 0), (55, .lcmp, 56, 0, .null), (56, .ifCond .ne 7, 59, 63, .null), (59, .dconst 0, 60, 0, .double 0), (60, .goto 9, 63, 69, .null), (63, .lload_n 2, 64, 0, .null), (64, .l2d, 65, 0, .null), (65, .lload 4, 67, 0, .null), (67, .l2d, 68, 0, .null), (68, .ddiv, 69, 0, .null), (69, .dreturn, 70, 0, .null)]
theorem okX2_shareOf : okP cX2_shareOf RX2 tX2_shareOf = true := by decide +kernel
def tX3_init : List En := [(0, .aload_n 0, 1, 0, .null), (1, .invokespecial 3, 4, 0, .null), (4, .aload_n 0, 5, 0, .null), (5, .bipush 6, 7, 0, .int (6)), (7, .anewarray 9, 10, 0, .null), (10, .putfield 11, 13, 0, .null), (13, .iconst 0, 14, 0, .int (0)), (14, .istore_n 1, 15, 0, .null), (15, .iload_n 1, 16, 0, .null), (16, .bipush 6, 18, 0, .int (6)), (18, .if_icmp .ge 22, 21, 40, .null), (21, .aload_n 0, 22, 0, .null), (22, .getfield 11, 25, 0, .null), (25, .iload_n 1, 26, 0, .null), (26, .new 9, 29, 0, .null), (29, .dup, 30, 0, .null), (30, .invokespecial 17, 33, 0, .null), (33, .aastore, 34, 0, .null), (34, .iinc 1 1, 37, 0, .int (1)), (37, .goto (-22), 40, 15, .null), (40, .aload_n 0, 41, 0, .null), (41, .iconst 0, 42, 0, .int (0)), (42, .putfield 18, 45, 0, .null), (45, .aload_n 0, 46, 0, .null), (46, .iconst 0, 47, 0, .int (0)), (47, .putfield 22, 50, 0, .null), (50, .return_, 51, 0, .null)]
theorem okX3_init : okP cX3_init RX3 tX3_init = true := by decide +kernel
def tX3_save : List En := [(0, .aload_n 0, 1, 0, .null), (1, .getfield 22, 4, 0, .null), (4, .bipush 6, 6, 0, .int (6)), (6, .if_icmp .ne 26, 9, 32, .null), (9, .aload_n 0, 10, 0, .null), (10, .aload_n 0, 11, 0, .null), (11, .getfield 18, 14, 0, .null), (14, .iconst 1, 15, 0, .int (1)), (15, .iadd, 16, 0, .null), (16, .bipush 6, 18, 0, .int (6)), (18, .irem, 19, 0, .null), (19, .putfield 18, 22, 0, .null), (22, .aload_n 0, 23, 0, .null), (23, .dup, 24, 0, .null), (24, .getfield 22, 27, 0, .null), (27, .iconst 1, 28, 0, .int (1)), (28, .isub, 29, 0, .null), (29, .putfield 22, 32, 0, .null), (32, .aload_n 0, 33, 0, .null), (33, .getfield 11, 36, 0, .null), (36, .aload_n 0, 37, 0, .null), (37, .getfield 18, 40, 0, .null), (40, .aload_n 0, 41, 0, .null), (41, .getfield 22, 44, 0, .null), (44, .iadd, 45, 0, .null), (45, .bipush 6, 47, 0, .int (6)), (47, .irem, 48, 0, .null), (48, .aaload, 49, 0, .null), (49, .aload_n 1, 50, 0, .null), (50, .invokevirtual 25, 53, 0, .null), (53, .aload_n 0, 54, 0, .null), (54, .dup, 55, 0, .null), (55, .getfield 22, 58, 0, .null), (58, .iconst 1, 59, 0, .int (1)), (59, .iadd, 60, 0, .null), (60, .putfield 22, 63, 0, .null), (63, .return_, 64, 0, .null)]
theorem okX3_save : okP cX3_save RX3 tX3_save = true := by decide +kernel
def tX3_dropInto : List En := [(0, .aload_n 0, 1, 0, .null), (1, .getfield 22, 4, 0, .null), (4, .ifCond .le 34, 7, 38, .null), (7, .aload_n 0, 8, 0, .null), (8, .dup, 9, 0, .null), (9, .getfield 22, 12, 0, .null), (12, .iconst 1, 13, 0, .int (1)), (13, .isub, 14, 0, .null), (14, .putfield 22, 17, 0, .null), (17, .aload_n 1, 18, 0, .null), (18, .aload_n 0, 19, 0, .null), (19, .getfield 11, 22, 0, .null), (22, .aload_n 0, 23, 0, .null), (23, .getfield 18, 26, 0, .null), (26, .aload_n 0, 27, 0, .null), (27, .getfield 22, 30, 0, .null), (30, .iadd, 31, 0, .null), (31, .bipush 6, 33, 0, .int (6)), (33, .irem, 34, 0, .null), (34, .aaload, 35, 0, .null), (35, .invokevirtual 25, 38, 0, .null), (38, .return_, 39, 0, .null)]
theorem okX3_dropInto : okP cX3_dropInto RX3 tX3_dropInto = true := by decide +kernel
def tJxe99ae_isNaN_b9ae7 : List En := [(0, .dload_n 0, 1, 0, .null), (1, .dload_n 0, 2, 0, .null), (2, .dcmp .l, 3, 0, .null), (3, .ifCond .eq 7, 6, 10, .null), (6, .iconst 1, 7, 0, .int (1)), (7, .goto 4, 10, 11, .null), (10, .iconst 0, 11, 0, .int (0)), (11, .ireturn, 12, 0, .null)]
theorem okJxe99ae_isNaN_b9ae7 : okP cJxe99ae_isNaN_b9ae7 RJxe99ae tJxe99ae_isNaN_b9ae7 = true := by decide +kernel
def tJxe99ae_doubleToLongBits_ccdee : List En := [(0, .dload_n 0, 1, 0, .null), (1, .invokestatic 122, 4, 0, .null), (4, .ifCond .ne 8, 7, 12, .null), (7, .dload_n 0, 8, 0, .null), (8, .invokestatic 134, 11, 0, .null), (11, .lreturn, 12, 0, .null), (12, .ldc2_w 137, 15, 0, .long (9221120237041090560)), (15, .lreturn, 16, 0, .null)]
theorem okJxe99ae_doubleToLongBits_ccdee : okP cJxe99ae_doubleToLongBits_ccdee RJxe99ae tJxe99ae_doubleToLongBits_ccdee = true := by decide +kernel
def tJxf58ca_isNaN_12338 : List En := [(0, .fload_n 0, 1, 0, .null), (1, .fload_n 0, 2, 0, .null), (2, .fcmp .l, 3, 0, .null), (3, .ifCond .eq 7, 6, 10, .null), (6, .iconst 1, 7, 0, .int (1)), (7, .goto 4, 10, 11, .null), (10, .iconst 0, 11, 0, .int (0)), (11, .ireturn, 12, 0, .null)]
theorem okJxf58ca_isNaN_12338 : okP cJxf58ca_isNaN_12338 RJxf58ca tJxf58ca_isNaN_12338 = true := by decide +kernel
def tJxf58ca_floatToIntBits_5c35a : List En := [(0, .fload_n 0, 1, 0, .null), (1, .invokestatic 59, 4, 0, .null), (4, .ifCond .ne 8, 7, 12, .null), (7, .fload_n 0, 8, 0, .null), (8, .invokestatic 74, 11, 0, .null), (11, .ireturn, 12, 0, .null), (12, .ldc 77, 14, 0, .int (2143289344)), (14, .ireturn, 15, 0, .null)]
theorem okJxf58ca_floatToIntBits_5c35a : okP cJxf58ca_floatToIntBits_5c35a RJxf58ca tJxf58ca_floatToIntBits_5c35a = true := by decide +kernel
def tJ6_bitCount_0f7a4 : List En := [(0, .iload_n 0, 1, 0, .null), (1, .iload_n 0, 2, 0, .null), (2, .iconst 1, 3, 0, .int (1)), (3, .iushr, 4, 0, .null), (4, .ldc_w 265, 7, 0, .int (1431655765)), (7, .iand, 8, 0, .null), (8, .isub, 9, 0, .null), (9, .istore_n 0, 10, 0, .null), (10, .iload_n 0, 11, 0, .null), (11, .ldc_w 266, 14, 0, .int (858993459)), (14, .iand, 15, 0, .null), (15, .iload_n 0, 16, 0, .null), (16, .iconst 2, 17, 0, .int (2)), (17, .iushr, 18, 0, .null), (18, .ldc_w 266, 21, 0, .int (858993459)), (21, .iand, 22, 0, .null), (22, .iadd, 23, 0, .null), (23, .istore_n 0, 24, 0, .null), (24, .iload_n 0, 25, 0, .null), (25, .iload_n 0, 26, 0, .null), (26, .iconst 4, 27, 0, .int (4)), (27, .iushr, 28, 0, .null), (28, .iadd, 29, 0, .null), (29, .ldc_w 267, 32, 0, .int (252645135)), (32, .iand, 33, 0, .null), (33, .istore_n 0, 34, 0, .null), (34, .iload_n 0, 35, 0, .null), (35, .iload_n 0, 36, 0, .null), (36, .bipush 8, 38, 0, .int (8)), (38, .iushr, 39, 0, .null), (39, .iadd, 40, 0, .null), (40, .istore_n 0, 41, 0, .null), (41, .iload_n 0, 42, 0, .null), (42, .iload_n 0, 43, 0, .null), (43, .bipush 16, 45, 0, .int (16)), (45, .iushr, 46, 0, .null), (46, .iadd, 47, 0, .null), (47, .istore_n 0, 48, 0, .null), (48, .iload_n 0, 49, 0, .null), (49, .bipush 63, 51, 0, .int (63)), (51, .iand, 52, 0, .null), (52, .ireturn, 53, 0, .null)]
theorem okJ6_bitCount_0f7a4 : okP cJ6_bitCount_0f7a4 RJ6 tJ6_bitCount_0f7a4 = true := by decide +kernel
def tJ9_abs_0f7a4 : List En := [(0, .iload_n 0, 1, 0, .null), (1, .ifCond .ge 8, 4, 9, .null), (4, .iload_n 0, 5, 0, .null), (5, .ineg, 6, 0, .null), (6, .goto 4, 9, 10, .null), (9, .iload_n 0, 10, 0, .null), (10, .ireturn, 11, 0, .null)]
theorem okJ9_abs_0f7a4 : okP cJ9_abs_0f7a4 RJ9 tJ9_abs_0f7a4 = true := by decide +kernel
def tJ9_abs_067f4 : List En := [(0, .lload_n 0, 1, 0, .null), (1, .lconst 0, 2, 0, .long 0), (2, .lcmp, 3, 0, .null), (3, .ifCond .ge 8, 6, 11, .null), (6, .lload_n 0, 7, 0, .null), (7, .lneg, 8, 0, .null), (8, .goto 4, 11, 12, .null), (11, .lload_n 0, 12, 0, .null), (12, .lreturn, 13, 0, .null)]
theorem okJ9_abs_067f4 : okP cJ9_abs_067f4 RJ9 tJ9_abs_067f4 = true := by decide +kernel
def tJ9_max_7cf53 : List En := [(0, .iload_n 0, 1, 0, .null), (1, .iload_n 1, 2, 0, .null), (2, .if_icmp .lt 7, 5, 9, .null), (5, .iload_n 0, 6, 0, .null), (6, .goto 4, 9, 10, .null), (9, .iload_n 1, 10, 0, .null), (10, .ireturn, 11, 0, .null)]
theorem okJ9_max_7cf53 : okP cJ9_max_7cf53 RJ9 tJ9_max_7cf53 = true := by decide +kernel
end
section
def tX4_init : List En := [(0, .aload_n 0, 1, 0, .null), (1, .invokespecial 3, 4, 0, .null), (4, .aload_n 0, 5, 0, .null), (5, .iconst 5, 6, 0, .int (5)), (6, .iconst 5, 7, 0, .int (5)), (7, .multianewarray 9 2, 11, 0, .null), (11, .putfield 11, 14, 0, .null), (14, .aload_n 0, 15, 0, .null), (15, .iconst 5, 16, 0, .int (5)), (16, .newarray .long, 18, 0, .null), (18, .putfield 16, 21, 0, .null), (21, .aload_n 0, 22, 0, .null), (22, .iconst 0, 23, 0, .int (0)), (23, .putfield 20, 26, 0, .null), (26, .return_, 27, 0, .null)]
theorem okX4_init : okP cX4_init RX4 tX4_init = true := by decide +kernel
def tX4_find : List En := [(0, .aload_n 1, 1, 0, .null), (1, .invokestatic 24, 4, 0, .null), (4, .bipush 60, 6, 0, .int (60)), (6, .if_icmp .le 6, 9, 12, .null), (9, .ldc 30, 11, 0, .int (-1000000000)), (11, .ireturn, 12, 0, .null), (12, .aload_n 0, 13, 0, .null), (13, .iload_n 2, 14, 0, .null), (14, .invokevirtual 31, 17, 0, .null), (17, .iconst 1, 18, 0, .int (1)), (18, .istore_n 3, 19, 0, .null), (19, .iload_n 3, 20, 0, .null), (20, .iconst 1, 21, 0, .int (1)), (21, .iload_n 2, 22, 0, .null), (22, .ishl, 23, 0, .null), (23, .if_icmp .ge 16, 26, 39, .null), (26, .aload_n 0, 27, 0, .null), (27, .aload_n 1, 28, 0, .null), (28, .iload_n 3, 29, 0, .null), (29, .iload_n 2, 30, 0, .null), (30, .invokevirtual 35, 33, 0, .null), (33, .iinc 3 1, 36, 0, .int (1)), (36, .goto (-17), 39, 19, .null), (39, .aload_n 0, 40, 0, .null), (40, .getfield 20, 43, 0, .null), (43, .ireturn, 44, 0, .null)]
theorem okX4_find : okP cX4_find RX4 tX4_find = true := by decide +kernel
def tX4_number : List En := [(0, .aload_n 0, 1, 0, .null), (1, .getfield 11, 4, 0, .null), (4, .iload_n 1, 5, 0, .null), (5, .aaload, 6, 0, .null), (6, .iload_n 2, 7, 0, .null), (7, .laload, 8, 0, .null), (8, .l2i, 9, 0, .null), (9, .ireturn, 10, 0, .null)]
theorem okX4_number : okP cX4_number RX4 tX4_number = true := by decide +kernel
def tX4_startWithAll : List En := [(0, .aload_n 0, 1, 0, .null), (1, .iload_n 1, 2, 0, .null), (2, .putfield 20, 5, 0, .null), (5, .iconst 0, 6, 0, .int (0)), (6, .istore_n 2, 7, 0, .null), (7, .iload_n 2, 8, 0, .null), (8, .iload_n 1, 9, 0, .null), (9, .if_icmp .ge 40, 12, 49, .null), (12, .iconst 0, 13, 0, .int (0)), (13, .istore_n 3, 14, 0, .null), (14, .iload_n 3, 15, 0, .null), (15, .iload_n 1, 16, 0, .null), (16, .if_icmp .ge 27, 19, 43, .null), (19, .aload_n 0, 20, 0, .null), (20, .getfield 11, 23, 0, .null), (23, .iload_n 2, 24, 0, .null), (24, .aaload, 25, 0, .null), (25, .iload_n 3, 26, 0, .null), (26, .iload_n 2, 27, 0, .null), (27, .iload_n 3, 28, 0, .null), (28, .if_icmp .ne 7, 31, 35, .null), (31, .lconst 1, 32, 0, .long 1), (32, .goto 4, 35, 36, .null), (35, .lconst 0, 36, 0, .long 0), (36, .lastore, 37, 0, .null), (37, .iinc 3 1, 40, 0, .int (1)), (40, .goto (-26), 43, 14, .null), (43, .iinc 2 1, 46, 0, .int (1)), (46, .goto (-39), 49, 7, .null), (49, .return_, 50, 0, .null)]
theorem okX4_startWithAll : okP cX4_startWithAll RX4 tX4_startWithAll = true := by decide +kernel
def tX4_cut : List En := [(0, .iconst (-1), 1, 0, .int (-1)), (1, .istore 4, 3, 0, .null), (3, .iconst 0, 4, 0, .int (0)), (4, .istore 5, 6, 0, .null), (6, .iload 5, 8, 0, .null), (8, .aload_n 0, 9, 0, .null), (9, .getfield 20, 12, 0, .null), (12, .if_icmp .ge 45, 15, 57, .null), (15, .aload_n 0, 16, 0, .null), (16, .getfield 16, 19, 0, .null), (19, .iload 5, 21, 0, .null), (21, .aload_n 1, 22, 0, .null), (22, .iload_n 2, 23, 0, .null), (23, .aload_n 0, 24, 0, .null), (24, .getfield 11, 27, 0, .null), (27, .iload 5, 29, 0, .null), (29, .aaload, 30, 0, .null), (30, .iload_n 3, 31, 0, .null), (31, .invokestatic 39, 34, 0, .null), (34, .lastore, 35, 0, .null), (35, .aload_n 0, 36, 0, .null), (36, .getfield 16, 39, 0, .null), (39, .iload 5, 41, 0, .null), (41, .laload, 42, 0, .null), (42, .lconst 0, 43, 0, .long 0), (43, .lcmp, 44, 0, .null), (44, .ifCond .eq 7, 47, 51, .null), (47, .iload 5, 49, 0, .null), (49, .istore 4, 51, 0, .null), (51, .iinc 5 1, 54, 0, .int (1)), (54, .goto (-48), 57, 6, .null), (57, .iload 4, 59, 0, .null), (59, .ifCond .ge 4, 62, 63, .null), (62, .return_, 63, 0, .null), (63, .iconst 0, 64, 0, .int (0)), (64, .istore 5, 66, 0, .null), (66, .iload 5, 68, 0, .null), (68, .iload 4, 70, 0, .null), (70, .if_icmp .ge 18, 73, 88, .null), (73, .aload_n 0, 74, 0, .null), (74, .iload 5, 76, 0, .null), (76, .iload 4, 78, 0, .null), (78, .iload_n 3, 79, 0, .null), (79, .invokevirtual 43, 82, 0, .null), (82, .iinc 5 1, 85, 0, .int (1)), (85, .goto (-19), 88, 66, .null), (88, .aload_n 0, 89, 0, .null), (89, .iload 4, 91, 0, .null), (91, .iload_n 3, 92, 0, .null), (92, .invokevirtual 47, 95, 0, .null), (95, .return_, 96, 0, .null)]
theorem okX4_cut : okP cX4_cut RX4 tX4_cut = true := by decide +kernel
def tX4_valueAt : List En := [(0, .lconst 0, 1, 0, .long 0), (1, .lstore 4, 3, 0, .null), (3, .iconst 0, 4, 0, .int (0)), (4, .istore 6, 6, 0, .null), (6, .iload 6, 8, 0, .null), (8, .iload_n 3, 9, 0, .null), (9, .if_icmp .ge 63, 12, 72, .null), (12, .iconst 1, 13, 0, .int (1)), (13, .iload 6, 15, 0, .null), (15, .ishl, 16, 0, .null), (16, .istore 7, 18, 0, .null), (18, .iload_n 1, 19, 0, .null), (19, .iload 7, 21, 0, .null), (21, .iand, 22, 0, .null), (22, .ifCond .eq 44, 25, 66, .null), (25, .iload_n 1, 26, 0, .null), (26, .iload 7, 28, 0, .null), (28, .ixor, 29, 0, .null), (29, .istore 8, 31, 0, .null), (31, .aload_n 2, 32, 0, .null), (32, .iload 6, 34, 0, .null), (34, .laload, 35, 0, .null), (35, .aload_n 0, 36, 0, .null), (36, .iload 8, 38, 0, .null), (38, .iaload, 39, 0, .null), (39, .i2l, 40, 0, .null), (40, .lmul, 41, 0, .null), (41, .lstore 9, 43, 0, .null), (43, .lload 4, 45, 0, .null), (45, .iload 7, 47, 0, .null), (47, .iload 8, 49, 0, .null), (49, .invokestatic 51, 52, 0, .null), (52, .ifCond .eq 9, 55, 61, .null), (55, .lload 9, 57, 0, .null), (57, .lneg, 58, 0, .null), (58, .goto 5, 61, 63, .null), (61, .lload 9, 63, 0, .null), (63, .ladd, 64, 0, .null), (64, .lstore 4, 66, 0, .null), (66, .iinc 6 1, 69, 0, .int (1)), (69, .goto (-63), 72, 6, .null), (72, .lload 4, 74, 0, .null), (74, .lreturn, 75, 0, .null)]
theorem okX4_valueAt : okP cX4_valueAt RX4 tX4_valueAt = true := by decide +kernel
def tX4_clearWith : List En := [(0, .aload_n 0, 1, 0, .null), (1, .getfield 16, 4, 0, .null), (4, .iload_n 1, 5, 0, .null), (5, .laload, 6, 0, .null), (6, .lconst 0, 7, 0, .long 0), (7, .lcmp, 8, 0, .null), (8, .ifCond .ne 4, 11, 12, .null), (11, .return_, 12, 0, .null), (12, .aload_n 0, 13, 0, .null), (13, .getfield 16, 16, 0, .null), (16, .iload_n 2, 17, 0, .null), (17, .laload, 18, 0, .null), (18, .invokestatic 57, 21, 0, .null), (21, .lstore 4, 23, 0, .null), (23, .aload_n 0, 24, 0, .null), (24, .getfield 16, 27, 0, .null), (27, .iload_n 2, 28, 0, .null), (28, .laload, 29, 0, .null), (29, .lconst 0, 30, 0, .long 0), (30, .lcmp, 31, 0, .null), (31, .ifCond .ge 13, 34, 44, .null), (34, .aload_n 0, 35, 0, .null), (35, .getfield 16, 38, 0, .null), (38, .iload_n 1, 39, 0, .null), (39, .laload, 40, 0, .null), (40, .lneg, 41, 0, .null), (41, .goto 9, 44, 50, .null), (44, .aload_n 0, 45, 0, .null), (45, .getfield 16, 48, 0, .null), (48, .iload_n 1, 49, 0, .null), (49, .laload, 50, 0, .null), (50, .lstore 6, 52, 0, .null), (52, .lconst 0, 53, 0, .long 0), (53, .lstore 8, 55, 0, .null), (55, .iconst 0, 56, 0, .int (0)), (56, .istore 10, 58, 0, .null), (58, .iload 10, 60, 0, .null), (60, .iload_n 3, 61, 0, .null), (61, .if_icmp .ge 62, 64, 123, .null), (64, .aload_n 0, 65, 0, .null), (65, .getfield 11, 68, 0, .null), (68, .iload_n 1, 69, 0, .null), (69, .aaload, 70, 0, .null), (70, .iload 10, 72, 0, .null), (72, .lload 4, 74, 0, .null), (74, .aload_n 0, 75, 0, .null), (75, .getfield 11, 78, 0, .null), (78, .iload_n 1, 79, 0, .null), (79, .aaload, 80, 0, .null), (80, .iload 10, 82, 0, .null), (82, .laload, 83, 0, .null), (83, .lmul, 84, 0, .null), (84, .lload 6, 86, 0, .null), (86, .aload_n 0, 87, 0, .null), (87, .getfield 11, 90, 0, .null), (90, .iload_n 2, 91, 0, .null), (91, .aaload, 92, 0, .null), (92, .iload 10, 94, 0, .null), (94, .laload, 95, 0, .null), (95, .lmul, 96, 0, .null), (96, .lsub, 97, 0, .null), (97, .lastore, 98, 0, .null), (98, .lload 8, 100, 0, .null), (100, .aload_n 0, 101, 0, .null), (101, .getfield 11, 104, 0, .null), (104, .iload_n 1, 105, 0, .null), (105, .aaload, 106, 0, .null), (106, .iload 10, 108, 0, .null), (108, .laload, 109, 0, .null), (109, .invokestatic 57, 112, 0, .null), (112, .invokestatic 63, 115, 0, .null), (115, .lstore 8, 117, 0, .null), (117, .iinc 10 1, 120, 0, .int (1)), (120, .goto (-62), 123, 58, .null), (123, .iconst 0, 124, 0, .int (0)), (124, .istore 10, 126, 0, .null), (126, .iload 10, 128, 0, .null), (128, .iload_n 3, 129, 0, .null), (129, .if_icmp .ge 30, 132, 159, .null), (132, .lload 8, 134, 0, .null), (134, .lconst 1, 135, 0, .long 1), (135, .lcmp, 136, 0, .null), (136, .ifCond .le 23, 139, 159, .null), (139, .aload_n 0, 140, 0, .null), (140, .getfield 11, 143, 0, .null), (143, .iload_n 1, 144, 0, .null), (144, .aaload, 145, 0, .null), (145, .iload 10, 147, 0, .null), (147, .dup2, 148, 0, .null), (148, .laload, 149, 0, .null), (149, .lload 8, 151, 0, .null), (151, .ldiv, 152, 0, .null), (152, .lastore, 153, 0, .null), (153, .iinc 10 1, 156, 0, .int (1)), (156, .goto (-30), 159, 126, .null), (159, .return_, 160, 0, .null)]
theorem okX4_clearWith : okP cX4_clearWith RX4 tX4_clearWith = true := by decide +kernel
def tX4_removeVector : List En := [(0, .aload_n 0, 1, 0, .null), (1, .dup, 2, 0, .null), (2, .getfield 20, 5, 0, .null), (5, .iconst 1, 6, 0, .int (1)), (6, .isub, 7, 0, .null), (7, .putfield 20, 10, 0, .null), (10, .iload_n 1, 11, 0, .null), (11, .istore_n 3, 12, 0, .null), (12, .iload_n 3, 13, 0, .null), (13, .aload_n 0, 14, 0, .null), (14, .getfield 20, 17, 0, .null), (17, .if_icmp .ge 29, 20, 46, .null), (20, .aload_n 0, 21, 0, .null), (21, .getfield 11, 24, 0, .null), (24, .iload_n 3, 25, 0, .null), (25, .iconst 1, 26, 0, .int (1)), (26, .iadd, 27, 0, .null), (27, .aaload, 28, 0, .null), (28, .iconst 0, 29, 0, .int (0)), (29, .aload_n 0, 30, 0, .null), (30, .getfield 11, 33, 0, .null), (33, .iload_n 3, 34, 0, .null), (34, .aaload, 35, 0, .null), (35, .iconst 0, 36, 0, .int (0)), (36, .iload_n 2, 37, 0, .null), (37, .invokestatic 67, 40, 0, .null), (40, .iinc 3 1, 43, 0, .int (1)), (43, .goto (-31), 46, 12, .null), (46, .return_, 47, 0, .null)]
theorem okX4_removeVector : okP cX4_removeVector RX4 tX4_removeVector = true := by decide +kernel
def tX4_commonDivisor : List En := [(0, .lload_n 0, 1, 0, .null), (1, .lstore 4, 3, 0, .null), (3, .lload_n 2, 4, 0, .null), (4, .lstore 6, 6, 0, .null), (6, .iconst 0, 7, 0, .int (0)), (7, .istore 8, 9, 0, .null), (9, .iload 8, 11, 0, .null), (11, .sipush 200, 14, 0, .int (200)), (14, .if_icmp .ge 31, 17, 45, .null), (17, .lload 6, 19, 0, .null), (19, .lconst 0, 20, 0, .long 0), (20, .lcmp, 21, 0, .null), (21, .ifCond .eq 24, 24, 45, .null), (24, .lload 4, 26, 0, .null), (26, .lload 6, 28, 0, .null), (28, .lrem, 29, 0, .null), (29, .lstore 9, 31, 0, .null), (31, .lload 6, 33, 0, .null), (33, .lstore 4, 35, 0, .null), (35, .lload 9, 37, 0, .null), (37, .lstore 6, 39, 0, .null), (39, .iinc 8 1, 42, 0, .int (1)), (42, .goto (-33), 45, 9, .null), (45, .lload 4, 47, 0, .null), (47, .lreturn, 48, 0, .null)]
theorem okX4_commonDivisor : okP cX4_commonDivisor RX4 tX4_commonDivisor = true := by decide +kernel
def tX5_oddTurns : List En := [(0, .iload_n 0, 1, 0, .null), (1, .iconst 1, 2, 0, .int (1)), (2, .ishr, 3, 0, .null), (3, .istore_n 2, 4, 0, .null), (4, .iload_n 2, 5, 0, .null), (5, .iload_n 2, 6, 0, .null), (6, .iconst 1, 7, 0, .int (1)), (7, .ishr, 8, 0, .null), (8, .ixor, 9, 0, .null), (9, .istore_n 2, 10, 0, .null), (10, .iload_n 2, 11, 0, .null), (11, .iload_n 2, 12, 0, .null), (12, .iconst 2, 13, 0, .int (2)), (13, .ishr, 14, 0, .null), (14, .ixor, 15, 0, .null), (15, .istore_n 2, 16, 0, .null), (16, .iload_n 2, 17, 0, .null), (17, .iload_n 1, 18, 0, .null), (18, .iand, 19, 0, .null), (19, .invokestatic 9, 22, 0, .null), (22, .iconst 1, 23, 0, .int (1)), (23, .iand, 24, 0, .null), (24, .iconst 1, 25, 0, .int (1)), (25, .if_icmp .ne 7, 28, 32, .null), (28, .iconst 1, 29, 0, .int (1)), (29, .goto 4, 32, 33, .null), (32, .iconst 0, 33, 0, .int (0)), (33, .ireturn, 34, 0, .null)]
theorem okX5_oddTurns : okP cX5_oddTurns RX5 tX5_oddTurns = true := by decide +kernel
def tX5_signOfBlade : List En := [(0, .iconst 1, 1, 0, .int (1)), (1, .istore_n 2, 2, 0, .null), (2, .iconst 0, 3, 0, .int (0)), (3, .istore_n 3, 4, 0, .null), (4, .iload_n 3, 5, 0, .null), (5, .iconst 5, 6, 0, .int (5)), (6, .if_icmp .ge 24, 9, 30, .null), (9, .iload_n 1, 10, 0, .null), (10, .iload_n 3, 11, 0, .null), (11, .ishr, 12, 0, .null), (12, .iconst 1, 13, 0, .int (1)), (13, .iand, 14, 0, .null), (14, .iconst 1, 15, 0, .int (1)), (15, .if_icmp .ne 9, 18, 24, .null), (18, .iload_n 2, 19, 0, .null), (19, .aload_n 0, 20, 0, .null), (20, .iload_n 3, 21, 0, .null), (21, .iaload, 22, 0, .null), (22, .imul, 23, 0, .null), (23, .istore_n 2, 24, 0, .null), (24, .iinc 3 1, 27, 0, .int (1)), (27, .goto (-23), 30, 4, .null), (30, .iload_n 2, 31, 0, .null), (31, .ireturn, 32, 0, .null)]
theorem okX5_signOfBlade : okP cX5_signOfBlade RX5 tX5_signOfBlade = true := by decide +kernel
def tX5_clear : List En := [(0, .iconst 0, 1, 0, .int (0)), (1, .istore_n 1, 2, 0, .null), (2, .iload_n 1, 3, 0, .null), (3, .bipush 32, 5, 0, .int (32)), (5, .if_icmp .ge 13, 8, 18, .null), (8, .aload_n 0, 9, 0, .null), (9, .iload_n 1, 10, 0, .null), (10, .lconst 0, 11, 0, .long 0), (11, .lastore, 12, 0, .null), (12, .iinc 1 1, 15, 0, .int (1)), (15, .goto (-13), 18, 2, .null), (18, .return_, 19, 0, .null)]
theorem okX5_clear : okP cX5_clear RX5 tX5_clear = true := by decide +kernel
def tX5_addForms : List En := [(0, .aload_n 0, 1, 0, .null), (1, .getfield 15, 4, 0, .null), (4, .iload_n 1, 5, 0, .null), (5, .aaload, 6, 0, .null), (6, .astore 4, 8, 0, .null), (8, .aload_n 0, 9, 0, .null), (9, .getfield 15, 12, 0, .null), (12, .iload_n 2, 13, 0, .null), (13, .aaload, 14, 0, .null), (14, .astore 5, 16, 0, .null), (16, .iconst 0, 17, 0, .int (0)), (17, .istore 6, 19, 0, .null), (19, .iload 6, 21, 0, .null), (21, .bipush 32, 23, 0, .int (32)), (23, .if_icmp .ge 26, 26, 49, .null), (26, .aload_n 3, 27, 0, .null), (27, .iload 6, 29, 0, .null), (29, .aload 4, 31, 0, .null), (31, .iload 6, 33, 0, .null), (33, .iaload, 34, 0, .null), (34, .i2l, 35, 0, .null), (35, .aload 5, 37, 0, .null), (37, .iload 6, 39, 0, .null), (39, .iaload, 40, 0, .null), (40, .i2l, 41, 0, .null), (41, .ladd, 42, 0, .null), (42, .lastore, 43, 0, .null), (43, .iinc 6 1, 46, 0, .int (1)), (46, .goto (-27), 49, 19, .null), (49, .return_, 50, 0, .null)]
theorem okX5_addForms : okP cX5_addForms RX5 tX5_addForms = true := by decide +kernel
def tX5_multiplyForm : List En := [(0, .aload_n 0, 1, 0, .null), (1, .getfield 15, 4, 0, .null), (4, .iload_n 1, 5, 0, .null), (5, .aaload, 6, 0, .null), (6, .astore 4, 8, 0, .null), (8, .iconst 0, 9, 0, .int (0)), (9, .istore 5, 11, 0, .null), (11, .iload 5, 13, 0, .null), (13, .bipush 32, 15, 0, .int (32)), (15, .if_icmp .ge 22, 18, 37, .null), (18, .aload_n 3, 19, 0, .null), (19, .iload 5, 21, 0, .null), (21, .aload 4, 23, 0, .null), (23, .iload 5, 25, 0, .null), (25, .iaload, 26, 0, .null), (26, .i2l, 27, 0, .null), (27, .iload_n 2, 28, 0, .null), (28, .i2l, 29, 0, .null), (29, .lmul, 30, 0, .null), (30, .lastore, 31, 0, .null), (31, .iinc 5 1, 34, 0, .int (1)), (34, .goto (-23), 37, 11, .null), (37, .return_, 38, 0, .null)]
theorem okX5_multiplyForm : okP cX5_multiplyForm RX5 tX5_multiplyForm = true := by decide +kernel
def tX5_wedgeForms : List En := [(0, .aload_n 3, 1, 0, .null), (1, .invokestatic 21, 4, 0, .null), (4, .iconst 0, 5, 0, .int (0)), (5, .istore 4, 7, 0, .null), (7, .iload 4, 9, 0, .null), (9, .iload_n 2, 10, 0, .null), (10, .if_icmp .ge 90, 13, 100, .null), (13, .aload_n 0, 14, 0, .null), (14, .iload 4, 16, 0, .null), (16, .iaload, 17, 0, .null), (17, .ifCond .ne 6, 20, 23, .null), (20, .goto 74, 23, 94, .null), (23, .iconst 0, 24, 0, .int (0)), (24, .istore 5, 26, 0, .null), (26, .iload 5, 28, 0, .null), (28, .iload_n 2, 29, 0, .null), (29, .if_icmp .ge 65, 32, 94, .null), (32, .iload 4, 34, 0, .null), (34, .iload 5, 36, 0, .null), (36, .iand, 37, 0, .null), (37, .ifCond .ne 51, 40, 88, .null), (40, .aload_n 1, 41, 0, .null), (41, .iload 5, 43, 0, .null), (43, .iaload, 44, 0, .null), (44, .ifCond .eq 44, 47, 88, .null), (47, .aload_n 0, 48, 0, .null), (48, .iload 4, 50, 0, .null), (50, .iaload, 51, 0, .null), (51, .i2l, 52, 0, .null), (52, .aload_n 1, 53, 0, .null), (53, .iload 5, 55, 0, .null), (55, .iaload, 56, 0, .null), (56, .i2l, 57, 0, .null), (57, .lmul, 58, 0, .null), (58, .lstore 6, 60, 0, .null), (60, .aload_n 3, 61, 0, .null), (61, .iload 4, 63, 0, .null), (63, .iload 5, 65, 0, .null), (65, .ior, 66, 0, .null), (66, .dup2, 67, 0, .null), (67, .laload, 68, 0, .null), (68, .iload 4, 70, 0, .null), (70, .iload 5, 72, 0, .null), (72, .invokestatic 27, 75, 0, .null), (75, .ifCond .eq 9, 78, 84, .null), (78, .lload 6, 80, 0, .null), (80, .lneg, 81, 0, .null), (81, .goto 5, 84, 86, .null), (84, .lload 6, 86, 0, .null), (86, .ladd, 87, 0, .null), (87, .lastore, 88, 0, .null), (88, .iinc 5 1, 91, 0, .int (1)), (91, .goto (-65), 94, 26, .null), (94, .iinc 4 1, 97, 0, .int (1)), (97, .goto (-90), 100, 7, .null), (100, .return_, 101, 0, .null)]
theorem okX5_wedgeForms : okP cX5_wedgeForms RX5 tX5_wedgeForms = true := by decide +kernel
def tX5_contractForms : List En := [(0, .aload_n 0, 1, 0, .null), (1, .getfield 15, 4, 0, .null), (4, .iload_n 1, 5, 0, .null), (5, .aaload, 6, 0, .null), (6, .astore 4, 8, 0, .null), (8, .aload_n 0, 9, 0, .null), (9, .getfield 15, 12, 0, .null), (12, .iload_n 2, 13, 0, .null), (13, .aaload, 14, 0, .null), (14, .astore 5, 16, 0, .null), (16, .aload_n 3, 17, 0, .null), (17, .invokestatic 21, 20, 0, .null), (20, .iconst 0, 21, 0, .int (0)), (21, .istore 6, 23, 0, .null), (23, .iload 6, 25, 0, .null), (25, .aload_n 0, 26, 0, .null), (26, .invokevirtual 31, 29, 0, .null), (29, .if_icmp .ge 115, 32, 144, .null), (32, .aload 4, 34, 0, .null), (34, .iload 6, 36, 0, .null), (36, .iaload, 37, 0, .null), (37, .ifCond .ne 6, 40, 43, .null), (40, .goto 98, 43, 138, .null), (43, .aload_n 0, 44, 0, .null), (44, .getfield 35, 47, 0, .null), (47, .iload 6, 49, 0, .null), (49, .invokestatic 39, 52, 0, .null), (52, .istore 7, 54, 0, .null), (54, .iconst 0, 55, 0, .int (0)), (55, .istore 8, 57, 0, .null), (57, .iload 8, 59, 0, .null), (59, .aload_n 0, 60, 0, .null), (60, .invokevirtual 31, 63, 0, .null), (63, .if_icmp .ge 75, 66, 138, .null), (66, .iload 6, 68, 0, .null), (68, .iload 8, 70, 0, .null), (70, .iand, 71, 0, .null), (71, .ifCond .ne 61, 74, 132, .null), (74, .aload 5, 76, 0, .null), (76, .iload 6, 78, 0, .null), (78, .iload 8, 80, 0, .null), (80, .ior, 81, 0, .null), (81, .iaload, 82, 0, .null), (82, .ifCond .eq 50, 85, 132, .null), (85, .aload 4, 87, 0, .null), (87, .iload 6, 89, 0, .null), (89, .iaload, 90, 0, .null), (90, .i2l, 91, 0, .null), (91, .aload 5, 93, 0, .null), (93, .iload 6, 95, 0, .null), (95, .iload 8, 97, 0, .null), (97, .ior, 98, 0, .null), (98, .iaload, 99, 0, .null), (99, .i2l, 100, 0, .null), (100, .lmul, 101, 0, .null), (101, .iload 7, 103, 0, .null), (103, .i2l, 104, 0, .null), (104, .lmul, 105, 0, .null), (105, .lstore 9, 107, 0, .null), (107, .aload_n 3, 108, 0, .null), (108, .iload 8, 110, 0, .null), (110, .dup2, 111, 0, .null), (111, .laload, 112, 0, .null), (112, .iload 6, 114, 0, .null), (114, .iload 8, 116, 0, .null), (116, .invokestatic 27, 119, 0, .null), (119, .ifCond .eq 9, 122, 128, .null), (122, .lload 9, 124, 0, .null), (124, .lneg, 125, 0, .null), (125, .goto 5, 128, 130, .null), (128, .lload 9, 130, 0, .null), (130, .ladd, 131, 0, .null), (131, .lastore, 132, 0, .null), (132, .iinc 8 1, 135, 0, .int (1)), (135, .goto (-78), 138, 57, .null), (138, .iinc 6 1, 141, 0, .int (1)), (141, .goto (-118), 144, 23, .null), (144, .return_, 145, 0, .null)]
theorem okX5_contractForms : okP cX5_contractForms RX5 tX5_contractForms = true := by decide +kernel
def tX5_starForm : List En := [(0, .aload_n 0, 1, 0, .null), (1, .getfield 15, 4, 0, .null), (4, .iload_n 1, 5, 0, .null), (5, .aaload, 6, 0, .null), (6, .astore_n 3, 7, 0, .null), (7, .aload_n 0, 8, 0, .null), (8, .invokevirtual 31, 11, 0, .null), (11, .iconst 1, 12, 0, .int (1)), (12, .isub, 13, 0, .null), (13, .istore 4, 15, 0, .null), (15, .aload_n 2, 16, 0, .null), (16, .invokestatic 21, 19, 0, .null), (19, .iconst 0, 20, 0, .int (0)), (20, .istore 5, 22, 0, .null), (22, .iload 5, 24, 0, .null), (24, .iload 4, 26, 0, .null), (26, .if_icmp .gt 56, 29, 82, .null), (29, .iload 4, 31, 0, .null), (31, .iload 5, 33, 0, .null), (33, .ixor, 34, 0, .null), (34, .istore 6, 36, 0, .null), (36, .aload_n 3, 37, 0, .null), (37, .iload 6, 39, 0, .null), (39, .iaload, 40, 0, .null), (40, .i2l, 41, 0, .null), (41, .aload_n 0, 42, 0, .null), (42, .getfield 35, 45, 0, .null), (45, .iload 6, 47, 0, .null), (47, .invokestatic 39, 50, 0, .null), (50, .i2l, 51, 0, .null), (51, .lmul, 52, 0, .null), (52, .lstore 7, 54, 0, .null), (54, .aload_n 2, 55, 0, .null), (55, .iload 5, 57, 0, .null), (57, .iload 6, 59, 0, .null), (59, .iload 5, 61, 0, .null), (61, .invokestatic 27, 64, 0, .null), (64, .ifCond .eq 9, 67, 73, .null), (67, .lload 7, 69, 0, .null), (69, .lneg, 70, 0, .null), (70, .goto 5, 73, 75, .null), (73, .lload 7, 75, 0, .null), (75, .lastore, 76, 0, .null), (76, .iinc 5 1, 79, 0, .int (1)), (79, .goto (-57), 82, 22, .null), (82, .return_, 83, 0, .null)]
theorem okX5_starForm : okP cX5_starForm RX5 tX5_starForm = true := by decide +kernel
def tX5_partOfForm : List En := [(0, .aload_n 0, 1, 0, .null), (1, .getfield 15, 4, 0, .null), (4, .iload_n 1, 5, 0, .null), (5, .aaload, 6, 0, .null), (6, .astore 4, 8, 0, .null), (8, .iconst 0, 9, 0, .int (0)), (9, .istore 5, 11, 0, .null), (11, .iload 5, 13, 0, .null), (13, .bipush 32, 15, 0, .int (32)), (15, .if_icmp .ge 32, 18, 47, .null), (18, .aload_n 3, 19, 0, .null), (19, .iload 5, 21, 0, .null), (21, .iload 5, 23, 0, .null), (23, .invokestatic 9, 26, 0, .null), (26, .iload_n 2, 27, 0, .null), (27, .if_icmp .ne 12, 30, 39, .null), (30, .aload 4, 32, 0, .null), (32, .iload 5, 34, 0, .null), (34, .iaload, 35, 0, .null), (35, .i2l, 36, 0, .null), (36, .goto 4, 39, 40, .null), (39, .lconst 0, 40, 0, .long 0), (40, .lastore, 41, 0, .null), (41, .iinc 5 1, 44, 0, .int (1)), (44, .goto (-33), 47, 11, .null), (47, .return_, 48, 0, .null)]
theorem okX5_partOfForm : okP cX5_partOfForm RX5 tX5_partOfForm = true := by decide +kernel
def tX5_reverseForm : List En := [(0, .aload_n 0, 1, 0, .null), (1, .getfield 15, 4, 0, .null), (4, .iload_n 1, 5, 0, .null), (5, .aaload, 6, 0, .null), (6, .astore_n 3, 7, 0, .null), (7, .iconst 0, 8, 0, .int (0)), (8, .istore 4, 10, 0, .null), (10, .iload 4, 12, 0, .null), (12, .bipush 32, 14, 0, .int (32)), (14, .if_icmp .ge 50, 17, 64, .null), (17, .iload 4, 19, 0, .null), (19, .invokestatic 9, 22, 0, .null), (22, .iconst 3, 23, 0, .int (3)), (23, .iand, 24, 0, .null), (24, .iconst 2, 25, 0, .int (2)), (25, .if_icmp .lt 7, 28, 32, .null), (28, .iconst 1, 29, 0, .int (1)), (29, .goto 4, 32, 33, .null), (32, .iconst 0, 33, 0, .int (0)), (33, .istore 5, 35, 0, .null), (35, .aload_n 2, 36, 0, .null), (36, .iload 4, 38, 0, .null), (38, .iload 5, 40, 0, .null), (40, .ifCond .eq 12, 43, 52, .null), (43, .aload_n 3, 44, 0, .null), (44, .iload 4, 46, 0, .null), (46, .iaload, 47, 0, .null), (47, .ineg, 48, 0, .null), (48, .i2l, 49, 0, .null), (49, .goto 8, 52, 57, .null), (52, .aload_n 3, 53, 0, .null), (53, .iload 4, 55, 0, .null), (55, .iaload, 56, 0, .null), (56, .i2l, 57, 0, .null), (57, .lastore, 58, 0, .null), (58, .iinc 4 1, 61, 0, .int (1)), (61, .goto (-51), 64, 10, .null), (64, .return_, 65, 0, .null)]
theorem okX5_reverseForm : okP cX5_reverseForm RX5 tX5_reverseForm = true := by decide +kernel
def tX5_pushForm : List En := [(0, .aload_n 0, 1, 0, .null), (1, .getfield 15, 4, 0, .null), (4, .iload_n 1, 5, 0, .null), (5, .aaload, 6, 0, .null), (6, .astore 4, 8, 0, .null), (8, .aload_n 3, 9, 0, .null), (9, .invokestatic 21, 12, 0, .null), (12, .iconst 0, 13, 0, .int (0)), (13, .istore 5, 15, 0, .null), (15, .iload 5, 17, 0, .null), (17, .aload_n 0, 18, 0, .null), (18, .invokevirtual 31, 21, 0, .null), (21, .if_icmp .ge 76, 24, 97, .null), (24, .aload 4, 26, 0, .null), (26, .iload 5, 28, 0, .null), (28, .iaload, 29, 0, .null), (29, .ifCond .ne 6, 32, 35, .null), (32, .goto 59, 35, 91, .null), (35, .aload_n 0, 36, 0, .null), (36, .iload 5, 38, 0, .null), (38, .aload_n 2, 39, 0, .null), (39, .invokestatic 43, 42, 0, .null), (42, .iconst 0, 43, 0, .int (0)), (43, .istore 6, 45, 0, .null), (45, .iload 6, 47, 0, .null), (47, .aload_n 0, 48, 0, .null), (48, .invokevirtual 31, 51, 0, .null), (51, .if_icmp .ge 40, 54, 91, .null), (54, .iload 6, 56, 0, .null), (56, .invokestatic 9, 59, 0, .null), (59, .iload 5, 61, 0, .null), (61, .invokestatic 9, 64, 0, .null), (64, .if_icmp .ne 21, 67, 85, .null), (67, .aload_n 3, 68, 0, .null), (68, .iload 6, 70, 0, .null), (70, .dup2, 71, 0, .null), (71, .laload, 72, 0, .null), (72, .aload 4, 74, 0, .null), (74, .iload 5, 76, 0, .null), (76, .iaload, 77, 0, .null), (77, .i2l, 78, 0, .null), (78, .aload_n 2, 79, 0, .null), (79, .iload 6, 81, 0, .null), (81, .laload, 82, 0, .null), (82, .lmul, 83, 0, .null), (83, .ladd, 84, 0, .null), (84, .lastore, 85, 0, .null), (85, .iinc 6 1, 88, 0, .int (1)), (88, .goto (-43), 91, 45, .null), (91, .iinc 5 1, 94, 0, .int (1)), (94, .goto (-79), 97, 15, .null), (97, .return_, 98, 0, .null)]
theorem okX5_pushForm : okP cX5_pushForm RX5 tX5_pushForm = true := by decide +kernel
def tX5_pushBlade : List En := [(0, .aload_n 2, 1, 0, .null), (1, .iconst 0, 2, 0, .int (0)), (2, .lconst 1, 3, 0, .long 1), (3, .lastore, 4, 0, .null), (4, .iconst 0, 5, 0, .int (0)), (5, .istore_n 3, 6, 0, .null), (6, .iconst 0, 7, 0, .int (0)), (7, .istore 4, 9, 0, .null), (9, .iload 4, 11, 0, .null), (11, .aload_n 0, 12, 0, .null), (12, .getfield 47, 15, 0, .null), (15, .if_icmp .ge 64, 18, 79, .null), (18, .iload_n 1, 19, 0, .null), (19, .iload 4, 21, 0, .null), (21, .ishr, 22, 0, .null), (22, .iconst 1, 23, 0, .int (1)), (23, .iand, 24, 0, .null), (24, .ifCond .ne 6, 27, 30, .null), (27, .goto 46, 30, 73, .null), (30, .iinc 3 1, 33, 0, .int (1)), (33, .iconst 0, 34, 0, .int (0)), (34, .istore 5, 36, 0, .null), (36, .iload 5, 38, 0, .null), (38, .aload_n 0, 39, 0, .null), (39, .invokevirtual 31, 42, 0, .null), (42, .if_icmp .ge 31, 45, 73, .null), (45, .iload 5, 47, 0, .null), (47, .invokestatic 9, 50, 0, .null), (50, .iload_n 3, 51, 0, .null), (51, .if_icmp .ne 16, 54, 67, .null), (54, .aload_n 2, 55, 0, .null), (55, .iload 5, 57, 0, .null), (57, .aload_n 0, 58, 0, .null), (58, .iload 5, 60, 0, .null), (60, .iload 4, 62, 0, .null), (62, .aload_n 2, 63, 0, .null), (63, .invokestatic 51, 66, 0, .null), (66, .lastore, 67, 0, .null), (67, .iinc 5 1, 70, 0, .int (1)), (70, .goto (-34), 73, 36, .null), (73, .iinc 4 1, 76, 0, .int (1)), (76, .goto (-67), 79, 9, .null), (79, .return_, 80, 0, .null)]
theorem okX5_pushBlade : okP cX5_pushBlade RX5 tX5_pushBlade = true := by decide +kernel
def tX5_wedgeWithColumn : List En := [(0, .lconst 0, 1, 0, .long 0), (1, .lstore 4, 3, 0, .null), (3, .iconst 0, 4, 0, .int (0)), (4, .istore 6, 6, 0, .null), (6, .iload 6, 8, 0, .null), (8, .aload_n 0, 9, 0, .null), (9, .getfield 47, 12, 0, .null), (12, .if_icmp .ge 68, 15, 80, .null), (15, .iconst 1, 16, 0, .int (1)), (16, .iload 6, 18, 0, .null), (18, .ishl, 19, 0, .null), (19, .istore 7, 21, 0, .null), (21, .iload_n 1, 22, 0, .null), (22, .iload 7, 24, 0, .null), (24, .iand, 25, 0, .null), (25, .ifCond .eq 49, 28, 74, .null), (28, .iload_n 1, 29, 0, .null), (29, .iload 7, 31, 0, .null), (31, .ixor, 32, 0, .null), (32, .istore 8, 34, 0, .null), (34, .aload_n 3, 35, 0, .null), (35, .iload 8, 37, 0, .null), (37, .laload, 38, 0, .null), (38, .aload_n 0, 39, 0, .null), (39, .getfield 55, 42, 0, .null), (42, .iload 6, 44, 0, .null), (44, .aaload, 45, 0, .null), (45, .iload_n 2, 46, 0, .null), (46, .iaload, 47, 0, .null), (47, .i2l, 48, 0, .null), (48, .lmul, 49, 0, .null), (49, .lstore 9, 51, 0, .null), (51, .lload 4, 53, 0, .null), (53, .iload 8, 55, 0, .null), (55, .iload 7, 57, 0, .null), (57, .invokestatic 27, 60, 0, .null), (60, .ifCond .eq 9, 63, 69, .null), (63, .lload 9, 65, 0, .null), (65, .lneg, 66, 0, .null), (66, .goto 5, 69, 71, .null), (69, .lload 9, 71, 0, .null), (71, .ladd, 72, 0, .null), (72, .lstore 4, 74, 0, .null), (74, .iinc 6 1, 77, 0, .int (1)), (77, .goto (-71), 80, 6, .null), (80, .lload 4, 82, 0, .null), (82, .lreturn, 83, 0, .null)]
theorem okX5_wedgeWithColumn : okP cX5_wedgeWithColumn RX5 tX5_wedgeWithColumn = true := by decide +kernel
def tX5_determinant : List En := [(0, .aload_n 0, 1, 0, .null), (1, .invokevirtual 31, 4, 0, .null), (4, .iconst 1, 5, 0, .int (1)), (5, .isub, 6, 0, .null), (6, .istore_n 2, 7, 0, .null), (7, .aload_n 0, 8, 0, .null), (8, .iload_n 2, 9, 0, .null), (9, .aload_n 1, 10, 0, .null), (10, .invokestatic 43, 13, 0, .null), (13, .aload_n 1, 14, 0, .null), (14, .iload_n 2, 15, 0, .null), (15, .laload, 16, 0, .null), (16, .l2i, 17, 0, .null), (17, .ireturn, 18, 0, .null)]
theorem okX5_determinant : okP cX5_determinant RX5 tX5_determinant = true := by decide +kernel
def tX5_innerOfForms : List En := [(0, .lconst 0, 1, 0, .long 0), (1, .lstore_n 3, 2, 0, .null), (2, .iconst 0, 3, 0, .int (0)), (3, .istore 5, 5, 0, .null), (5, .iload 5, 7, 0, .null), (7, .aload_n 0, 8, 0, .null), (8, .invokevirtual 31, 11, 0, .null), (11, .if_icmp .ge 48, 14, 59, .null), (14, .aload_n 0, 15, 0, .null), (15, .getfield 15, 18, 0, .null), (18, .iload_n 1, 19, 0, .null), (19, .aaload, 20, 0, .null), (20, .iload 5, 22, 0, .null), (22, .iaload, 23, 0, .null), (23, .i2l, 24, 0, .null), (24, .aload_n 0, 25, 0, .null), (25, .getfield 15, 28, 0, .null), (28, .iload_n 2, 29, 0, .null), (29, .aaload, 30, 0, .null), (30, .iload 5, 32, 0, .null), (32, .iaload, 33, 0, .null), (33, .i2l, 34, 0, .null), (34, .lmul, 35, 0, .null), (35, .lstore 6, 37, 0, .null), (37, .lload_n 3, 38, 0, .null), (38, .lload 6, 40, 0, .null), (40, .aload_n 0, 41, 0, .null), (41, .getfield 35, 44, 0, .null), (44, .iload 5, 46, 0, .null), (46, .invokestatic 39, 49, 0, .null), (49, .i2l, 50, 0, .null), (50, .lmul, 51, 0, .null), (51, .ladd, 52, 0, .null), (52, .lstore_n 3, 53, 0, .null), (53, .iinc 5 1, 56, 0, .int (1)), (56, .goto (-51), 59, 5, .null), (59, .lload_n 3, 60, 0, .null), (60, .lreturn, 61, 0, .null)]
theorem okX5_innerOfForms : okP cX5_innerOfForms RX5 tX5_innerOfForms = true := by decide +kernel
def tX6_init : List En := [(0, .aload_n 0, 1, 0, .null), (1, .invokespecial 3, 4, 0, .null), (4, .aload_n 0, 5, 0, .null), (5, .bipush 8, 7, 0, .int (8)), (7, .bipush 32, 9, 0, .int (32)), (9, .multianewarray 9 2, 13, 0, .null), (13, .putfield 11, 16, 0, .null), (16, .aload_n 0, 17, 0, .null), (17, .iconst 5, 18, 0, .int (5)), (18, .newarray .int, 20, 0, .null), (20, .putfield 16, 23, 0, .null), (23, .aload_n 0, 24, 0, .null), (24, .iconst 5, 25, 0, .int (5)), (25, .iconst 5, 26, 0, .int (5)), (26, .multianewarray 9 2, 30, 0, .null), (30, .putfield 20, 33, 0, .null), (33, .aload_n 0, 34, 0, .null), (34, .bipush 9, 36, 0, .int (9)), (36, .newarray .int, 38, 0, .null), (38, .putfield 23, 41, 0, .null), (41, .aload_n 0, 42, 0, .null), (42, .iconst 4, 43, 0, .int (4)), (43, .invokevirtual 26, 46, 0, .null), (46, .return_, 47, 0, .null)]
theorem okX6_init : okP cX6_init RX6 tX6_init = true := by decide +kernel
def tX6_blades : List En := [(0, .iconst 1, 1, 0, .int (1)), (1, .aload_n 0, 2, 0, .null), (2, .getfield 30, 5, 0, .null), (5, .ishl, 6, 0, .null), (6, .ireturn, 7, 0, .null)]
theorem okX6_blades : okP cX6_blades RX6 tX6_blades = true := by decide +kernel
def tX6_startWith : List En := [(0, .aload_n 0, 1, 0, .null), (1, .iload_n 1, 2, 0, .null), (2, .putfield 30, 5, 0, .null), (5, .iconst 0, 6, 0, .int (0)), (6, .istore_n 2, 7, 0, .null), (7, .iload_n 2, 8, 0, .null), (8, .bipush 8, 10, 0, .int (8)), (10, .if_icmp .ge 32, 13, 42, .null), (13, .iconst 0, 14, 0, .int (0)), (14, .istore_n 3, 15, 0, .null), (15, .iload_n 3, 16, 0, .null), (16, .bipush 32, 18, 0, .int (32)), (18, .if_icmp .ge 18, 21, 36, .null), (21, .aload_n 0, 22, 0, .null), (22, .getfield 11, 25, 0, .null), (25, .iload_n 2, 26, 0, .null), (26, .aaload, 27, 0, .null), (27, .iload_n 3, 28, 0, .null), (28, .iconst 0, 29, 0, .int (0)), (29, .iastore, 30, 0, .null), (30, .iinc 3 1, 33, 0, .int (1)), (33, .goto (-18), 36, 15, .null), (36, .iinc 2 1, 39, 0, .int (1)), (39, .goto (-32), 42, 7, .null), (42, .iconst 0, 43, 0, .int (0)), (43, .istore_n 2, 44, 0, .null), (44, .iload_n 2, 45, 0, .null), (45, .iconst 5, 46, 0, .int (5)), (46, .if_icmp .ge 47, 49, 93, .null), (49, .aload_n 0, 50, 0, .null), (50, .getfield 16, 53, 0, .null), (53, .iload_n 2, 54, 0, .null), (54, .iconst 1, 55, 0, .int (1)), (55, .iastore, 56, 0, .null), (56, .iconst 0, 57, 0, .int (0)), (57, .istore_n 3, 58, 0, .null), (58, .iload_n 3, 59, 0, .null), (59, .iconst 5, 60, 0, .int (5)), (60, .if_icmp .ge 27, 63, 87, .null), (63, .aload_n 0, 64, 0, .null), (64, .getfield 20, 67, 0, .null), (67, .iload_n 2, 68, 0, .null), (68, .aaload, 69, 0, .null), (69, .iload_n 3, 70, 0, .null), (70, .iload_n 2, 71, 0, .null), (71, .iload_n 3, 72, 0, .null), (72, .if_icmp .ne 7, 75, 79, .null), (75, .iconst 1, 76, 0, .int (1)), (76, .goto 4, 79, 80, .null), (79, .iconst 0, 80, 0, .int (0)), (80, .iastore, 81, 0, .null), (81, .iinc 3 1, 84, 0, .int (1)), (84, .goto (-26), 87, 58, .null), (87, .iinc 2 1, 90, 0, .int (1)), (90, .goto (-46), 93, 44, .null), (93, .return_, 94, 0, .null)]
theorem okX6_startWith : okP cX6_startWith RX6 tX6_startWith = true := by decide +kernel
def tX6_copyScene : List En := [(0, .aload_n 0, 1, 0, .null), (1, .aload_n 1, 2, 0, .null), (2, .getfield 30, 5, 0, .null), (5, .putfield 30, 8, 0, .null), (8, .iconst 0, 9, 0, .int (0)), (9, .istore_n 2, 10, 0, .null), (10, .iload_n 2, 11, 0, .null), (11, .bipush 8, 13, 0, .int (8)), (13, .if_icmp .ge 28, 16, 41, .null), (16, .aload_n 1, 17, 0, .null), (17, .getfield 11, 20, 0, .null), (20, .iload_n 2, 21, 0, .null), (21, .aaload, 22, 0, .null), (22, .iconst 0, 23, 0, .int (0)), (23, .aload_n 0, 24, 0, .null), (24, .getfield 11, 27, 0, .null), (27, .iload_n 2, 28, 0, .null), (28, .aaload, 29, 0, .null), (29, .iconst 0, 30, 0, .int (0)), (30, .bipush 32, 32, 0, .int (32)), (32, .invokestatic 34, 35, 0, .null), (35, .iinc 2 1, 38, 0, .int (1)), (38, .goto (-28), 41, 10, .null), (41, .aload_n 1, 42, 0, .null), (42, .getfield 16, 45, 0, .null), (45, .iconst 0, 46, 0, .int (0)), (46, .aload_n 0, 47, 0, .null), (47, .getfield 16, 50, 0, .null), (50, .iconst 0, 51, 0, .int (0)), (51, .iconst 5, 52, 0, .int (5)), (52, .invokestatic 34, 55, 0, .null), (55, .iconst 0, 56, 0, .int (0)), (56, .istore_n 2, 57, 0, .null), (57, .iload_n 2, 58, 0, .null), (58, .iconst 5, 59, 0, .int (5)), (59, .if_icmp .ge 27, 62, 86, .null), (62, .aload_n 1, 63, 0, .null), (63, .getfield 20, 66, 0, .null), (66, .iload_n 2, 67, 0, .null), (67, .aaload, 68, 0, .null), (68, .iconst 0, 69, 0, .int (0)), (69, .aload_n 0, 70, 0, .null), (70, .getfield 20, 73, 0, .null), (73, .iload_n 2, 74, 0, .null), (74, .aaload, 75, 0, .null), (75, .iconst 0, 76, 0, .int (0)), (76, .iconst 5, 77, 0, .int (5)), (77, .invokestatic 34, 80, 0, .null), (80, .iinc 2 1, 83, 0, .int (1)), (83, .goto (-26), 86, 57, .null), (86, .return_, 87, 0, .null)]
theorem okX6_copyScene : okP cX6_copyScene RX6 tX6_copyScene = true := by decide +kernel
def tX6_copyAll : List En := [(0, .aload_n 0, 1, 0, .null), (1, .aload_n 1, 2, 0, .null), (2, .invokevirtual 40, 5, 0, .null), (5, .aload_n 1, 6, 0, .null), (6, .getfield 23, 9, 0, .null), (9, .iconst 0, 10, 0, .int (0)), (10, .aload_n 0, 11, 0, .null), (11, .getfield 23, 14, 0, .null), (14, .iconst 0, 15, 0, .int (0)), (15, .bipush 9, 17, 0, .int (9)), (17, .invokestatic 34, 20, 0, .null), (20, .return_, 21, 0, .null)]
theorem okX6_copyAll : okP cX6_copyAll RX6 tX6_copyAll = true := by decide +kernel
def tX6_countForms : List En := [(0, .iconst 0, 1, 0, .int (0)), (1, .istore_n 1, 2, 0, .null), (2, .iconst 0, 3, 0, .int (0)), (3, .istore_n 2, 4, 0, .null), (4, .iload_n 2, 5, 0, .null), (5, .bipush 8, 7, 0, .int (8)), (7, .if_icmp .ge 26, 10, 33, .null), (10, .aload_n 0, 11, 0, .null), (11, .getfield 11, 14, 0, .null), (14, .iload_n 2, 15, 0, .null), (15, .aaload, 16, 0, .null), (16, .invokestatic 44, 19, 0, .null), (19, .ldc 50, 21, 0, .int (-1000000000)), (21, .if_icmp .eq 6, 24, 27, .null), (24, .iinc 1 1, 27, 0, .int (1)), (27, .iinc 2 1, 30, 0, .int (1)), (30, .goto (-26), 33, 4, .null), (33, .iload_n 1, 34, 0, .null), (34, .ireturn, 35, 0, .null)]
theorem okX6_countForms : okP cX6_countForms RX6 tX6_countForms = true := by decide +kernel
end
section
def tX7_init : List En := [(0, .aload_n 0, 1, 0, .null), (1, .invokespecial 1, 4, 0, .null), (4, .aload_n 0, 5, 0, .null), (5, .new 7, 8, 0, .null), (8, .dup, 9, 0, .null), (9, .invokespecial 9, 12, 0, .null), (12, .putfield 10, 15, 0, .null), (15, .aload_n 0, 16, 0, .null), (16, .new 16, 19, 0, .null), (19, .dup, 20, 0, .null), (20, .invokespecial 18, 23, 0, .null), (23, .putfield 19, 26, 0, .null), (26, .aload_n 0, 27, 0, .null), (27, .iconst 2, 28, 0, .int (2)), (28, .anewarray 7, 31, 0, .null), (31, .putfield 23, 34, 0, .null), (34, .iconst 0, 35, 0, .int (0)), (35, .istore_n 1, 36, 0, .null), (36, .iload_n 1, 37, 0, .null), (37, .iconst 2, 38, 0, .int (2)), (38, .if_icmp .ge 22, 41, 60, .null), (41, .aload_n 0, 42, 0, .null), (42, .getfield 23, 45, 0, .null), (45, .iload_n 1, 46, 0, .null), (46, .new 7, 49, 0, .null), (49, .dup, 50, 0, .null), (50, .invokespecial 9, 53, 0, .null), (53, .aastore, 54, 0, .null), (54, .iinc 1 1, 57, 0, .int (1)), (57, .goto (-21), 60, 36, .null), (60, .aload_n 0, 61, 0, .null), (61, .iconst 2, 62, 0, .int (2)), (62, .newarray .boolean, 64, 0, .null), (64, .putfield 27, 67, 0, .null), (67, .aload_n 0, 68, 0, .null), (68, .bipush 60, 70, 0, .int (60)), (70, .newarray .int, 72, 0, .null), (72, .putfield 31, 75, 0, .null), (75, .aload_n 0, 76, 0, .null), (76, .iconst 0, 77, 0, .int (0)), (77, .putfield 35, 80, 0, .null), (80, .aload_n 0, 81, 0, .null), (81, .bipush 32, 83, 0, .int (32)), (83, .newarray .long, 85, 0, .null), (85, .putfield 39, 88, 0, .null), (88, .aload_n 0, 89, 0, .null), (89, .bipush 32, 91, 0, .int (32)), (91, .newarray .long, 93, 0, .null), (93, .putfield 43, 96, 0, .null), (96, .aload_n 0, 97, 0, .null), (97, .bipush 32, 99, 0, .int (32)), (99, .newarray .int, 101, 0, .null), (101, .putfield 46, 104, 0, .null), (104, .aload_n 0, 105, 0, .null), (105, .new 49, 108, 0, .null), (108, .dup, 109, 0, .null), (109, .invokespecial 51, 112, 0, .null), (112, .putfield 52, 115, 0, .null), (115, .aload_n 0, 116, 0, .null), (116, .new 56, 119, 0, .null), (119, .dup, 120, 0, .null), (120, .invokespecial 58, 123, 0, .null), (123, .putfield 59, 126, 0, .null), (126, .return_, 127, 0, .null)]
theorem okX7_init : okP cX7_init RX7 tX7_init = true := by decide +kernel
def tX7_begin : List En := [(0, .iload_n 1, 1, 0, .null), (1, .iconst 2, 2, 0, .int (2)), (2, .if_icmp .lt 8, 5, 10, .null), (5, .iload_n 1, 6, 0, .null), (6, .iconst 5, 7, 0, .int (5)), (7, .if_icmp .le 13, 10, 20, .null), (10, .new 63, 13, 0, .null), (13, .dup, 14, 0, .null), (16, .invokespecial 67, 19, 0, .null), (19, .athrow, 20, 0, .null), (20, .aload_n 0, 21, 0, .null), (21, .getfield 19, 24, 0, .null), (24, .aload_n 0, 25, 0, .null), (25, .getfield 10, 28, 0, .null), (28, .invokevirtual 70, 31, 0, .null), (31, .aload_n 0, 32, 0, .null), (32, .getfield 10, 35, 0, .null), (35, .getfield 74, 38, 0, .null), (38, .istore_n 2, 39, 0, .null), (39, .aload_n 0, 40, 0, .null), (40, .getfield 10, 43, 0, .null), (43, .iload_n 1, 44, 0, .null), (44, .invokevirtual 77, 47, 0, .null), (47, .iload_n 2, 48, 0, .null), (48, .ireturn, 49, 0, .null)]
theorem okX7_begin : okP cX7_begin RX7 tX7_begin = true := by decide +kernel
def tX7_sign : List En := [(0, .aload_n 0, 1, 0, .null), (1, .iload_n 1, 2, 0, .null), (2, .invokevirtual 81, 5, 0, .null), (5, .iload_n 2, 6, 0, .null), (6, .iconst 1, 7, 0, .int (1)), (7, .if_icmp .eq 18, 10, 25, .null), (10, .iload_n 2, 11, 0, .null), (11, .iconst (-1), 12, 0, .int (-1)), (12, .if_icmp .eq 13, 15, 25, .null), (15, .new 63, 18, 0, .null), (18, .dup, 19, 0, .null), (21, .invokespecial 67, 24, 0, .null), (24, .athrow, 25, 0, .null), (25, .aload_n 0, 26, 0, .null), (26, .getfield 19, 29, 0, .null), (29, .aload_n 0, 30, 0, .null), (30, .getfield 10, 33, 0, .null), (33, .invokevirtual 70, 36, 0, .null), (36, .aload_n 0, 37, 0, .null), (37, .getfield 10, 40, 0, .null), (40, .getfield 86, 43, 0, .null), (43, .iload_n 1, 44, 0, .null), (44, .iaload, 45, 0, .null), (45, .istore_n 3, 46, 0, .null), (46, .aload_n 0, 47, 0, .null), (47, .getfield 10, 50, 0, .null), (50, .getfield 86, 53, 0, .null), (53, .iload_n 1, 54, 0, .null), (54, .iload_n 2, 55, 0, .null), (55, .iastore, 56, 0, .null), (56, .iload_n 3, 57, 0, .null), (57, .ireturn, 58, 0, .null)]
theorem okX7_sign : okP cX7_sign RX7 tX7_sign = true := by decide +kernel
def tX7_matrix : List En := [(0, .aload_n 0, 1, 0, .null), (1, .iload_n 1, 2, 0, .null), (2, .invokevirtual 81, 5, 0, .null), (5, .aload_n 0, 6, 0, .null), (6, .iload_n 2, 7, 0, .null), (7, .invokevirtual 81, 10, 0, .null), (10, .iload_n 3, 11, 0, .null), (11, .bipush 9, 13, 0, .int (9)), (13, .invokestatic 89, 16, 0, .null), (16, .aload_n 0, 17, 0, .null), (17, .getfield 19, 20, 0, .null), (20, .aload_n 0, 21, 0, .null), (21, .getfield 10, 24, 0, .null), (24, .invokevirtual 70, 27, 0, .null), (27, .aload_n 0, 28, 0, .null), (28, .getfield 10, 31, 0, .null), (31, .getfield 93, 34, 0, .null), (34, .iload_n 1, 35, 0, .null), (35, .aaload, 36, 0, .null), (36, .iload_n 2, 37, 0, .null), (37, .iaload, 38, 0, .null), (38, .istore 4, 40, 0, .null), (40, .aload_n 0, 41, 0, .null), (41, .getfield 10, 44, 0, .null), (44, .getfield 93, 47, 0, .null), (47, .iload_n 1, 48, 0, .null), (48, .aaload, 49, 0, .null), (49, .iload_n 2, 50, 0, .null), (50, .iload_n 3, 51, 0, .null), (51, .iastore, 52, 0, .null), (52, .iload 4, 54, 0, .null), (54, .ireturn, 55, 0, .null)]
theorem okX7_matrix : okP cX7_matrix RX7 tX7_matrix = true := by decide +kernel
def tX7_set : List En := [(0, .iload_n 1, 1, 0, .null), (1, .invokestatic 97, 4, 0, .null), (4, .aload_n 0, 5, 0, .null), (5, .iload_n 2, 6, 0, .null), (6, .invokevirtual 100, 9, 0, .null), (9, .iload_n 3, 10, 0, .null), (10, .ldc 103, 12, 0, .int (100000000)), (12, .invokestatic 89, 15, 0, .null), (15, .aload_n 0, 16, 0, .null), (16, .getfield 19, 19, 0, .null), (19, .aload_n 0, 20, 0, .null), (20, .getfield 10, 23, 0, .null), (23, .invokevirtual 70, 26, 0, .null), (26, .aload_n 0, 27, 0, .null), (27, .getfield 10, 30, 0, .null), (30, .getfield 104, 33, 0, .null), (33, .iload_n 1, 34, 0, .null), (34, .aaload, 35, 0, .null), (35, .iload_n 2, 36, 0, .null), (36, .iaload, 37, 0, .null), (37, .istore 4, 39, 0, .null), (39, .aload_n 0, 40, 0, .null), (40, .getfield 10, 43, 0, .null), (43, .getfield 104, 46, 0, .null), (46, .iload_n 1, 47, 0, .null), (47, .aaload, 48, 0, .null), (48, .iload_n 2, 49, 0, .null), (49, .iload_n 3, 50, 0, .null), (50, .iastore, 51, 0, .null), (51, .iload 4, 53, 0, .null), (53, .ireturn, 54, 0, .null)]
theorem okX7_set : okP cX7_set RX7 tX7_set = true := by decide +kernel
def tX7_sum : List En := [(0, .iload_n 1, 1, 0, .null), (1, .iload_n 2, 2, 0, .null), (2, .iload_n 3, 3, 0, .null), (3, .invokestatic 107, 6, 0, .null), (6, .aload_n 0, 7, 0, .null), (7, .getfield 10, 10, 0, .null), (10, .iload_n 1, 11, 0, .null), (11, .iload_n 2, 12, 0, .null), (12, .aload_n 0, 13, 0, .null), (13, .getfield 39, 16, 0, .null), (16, .invokestatic 111, 19, 0, .null), (19, .aload_n 0, 20, 0, .null), (20, .invokevirtual 117, 23, 0, .null), (23, .aload_n 0, 24, 0, .null), (24, .iload_n 3, 25, 0, .null), (25, .iconst 0, 26, 0, .int (0)), (26, .invokevirtual 120, 29, 0, .null), (29, .ireturn, 30, 0, .null)]
theorem okX7_sum : okP cX7_sum RX7 tX7_sum = true := by decide +kernel
def tX7_scale : List En := [(0, .iload_n 1, 1, 0, .null), (1, .invokestatic 97, 4, 0, .null), (4, .iload_n 3, 5, 0, .null), (5, .invokestatic 97, 8, 0, .null), (8, .iload_n 2, 9, 0, .null), (9, .sipush 1000, 12, 0, .int (1000)), (12, .invokestatic 89, 15, 0, .null), (15, .aload_n 0, 16, 0, .null), (16, .getfield 10, 19, 0, .null), (19, .iload_n 1, 20, 0, .null), (20, .iload_n 2, 21, 0, .null), (21, .aload_n 0, 22, 0, .null), (22, .getfield 39, 25, 0, .null), (25, .invokestatic 124, 28, 0, .null), (28, .aload_n 0, 29, 0, .null), (29, .invokevirtual 117, 32, 0, .null), (32, .aload_n 0, 33, 0, .null), (33, .iload_n 3, 34, 0, .null), (34, .iconst 1, 35, 0, .int (1)), (35, .invokevirtual 120, 38, 0, .null), (38, .ireturn, 39, 0, .null)]
theorem okX7_scale : okP cX7_scale RX7 tX7_scale = true := by decide +kernel
def tX7_wedge : List En := [(0, .iload_n 1, 1, 0, .null), (1, .iload_n 2, 2, 0, .null), (2, .iload_n 3, 3, 0, .null), (3, .invokestatic 107, 6, 0, .null), (6, .aload_n 0, 7, 0, .null), (7, .getfield 10, 10, 0, .null), (10, .getfield 104, 13, 0, .null), (13, .iload_n 1, 14, 0, .null), (14, .aaload, 15, 0, .null), (15, .aload_n 0, 16, 0, .null), (16, .getfield 10, 19, 0, .null), (19, .getfield 104, 22, 0, .null), (22, .iload_n 2, 23, 0, .null), (23, .aaload, 24, 0, .null), (24, .aload_n 0, 25, 0, .null), (25, .getfield 10, 28, 0, .null), (28, .invokevirtual 127, 31, 0, .null), (31, .aload_n 0, 32, 0, .null), (32, .getfield 39, 35, 0, .null), (35, .invokestatic 131, 38, 0, .null), (38, .aload_n 0, 39, 0, .null), (39, .invokevirtual 117, 42, 0, .null), (42, .aload_n 0, 43, 0, .null), (43, .iload_n 3, 44, 0, .null), (44, .iconst 2, 45, 0, .int (2)), (45, .invokevirtual 120, 48, 0, .null), (48, .ireturn, 49, 0, .null)]
theorem okX7_wedge : okP cX7_wedge RX7 tX7_wedge = true := by decide +kernel
def tX7_contract : List En := [(0, .iload_n 1, 1, 0, .null), (1, .iload_n 2, 2, 0, .null), (2, .iload_n 3, 3, 0, .null), (3, .invokestatic 107, 6, 0, .null), (6, .aload_n 0, 7, 0, .null), (7, .getfield 10, 10, 0, .null), (10, .iload_n 1, 11, 0, .null), (11, .iload_n 2, 12, 0, .null), (12, .aload_n 0, 13, 0, .null), (13, .getfield 39, 16, 0, .null), (16, .invokestatic 135, 19, 0, .null), (19, .aload_n 0, 20, 0, .null), (20, .invokevirtual 117, 23, 0, .null), (23, .aload_n 0, 24, 0, .null), (24, .iload_n 3, 25, 0, .null), (25, .iconst 3, 26, 0, .int (3)), (26, .invokevirtual 120, 29, 0, .null), (29, .ireturn, 30, 0, .null)]
theorem okX7_contract : okP cX7_contract RX7 tX7_contract = true := by decide +kernel
def tX7_star : List En := [(0, .iload_n 1, 1, 0, .null), (1, .invokestatic 97, 4, 0, .null), (4, .iload_n 2, 5, 0, .null), (5, .invokestatic 97, 8, 0, .null), (8, .aload_n 0, 9, 0, .null), (9, .getfield 10, 12, 0, .null), (12, .iload_n 1, 13, 0, .null), (13, .aload_n 0, 14, 0, .null), (14, .getfield 39, 17, 0, .null), (17, .invokestatic 138, 20, 0, .null), (20, .aload_n 0, 21, 0, .null), (21, .iload_n 2, 22, 0, .null), (22, .iconst 4, 23, 0, .int (4)), (23, .invokevirtual 120, 26, 0, .null), (26, .ireturn, 27, 0, .null)]
theorem okX7_star : okP cX7_star RX7 tX7_star = true := by decide +kernel
def tX7_part : List En := [(0, .iload_n 1, 1, 0, .null), (1, .invokestatic 97, 4, 0, .null), (4, .iload_n 3, 5, 0, .null), (5, .invokestatic 97, 8, 0, .null), (8, .aload_n 0, 9, 0, .null), (9, .iload_n 2, 10, 0, .null), (10, .invokevirtual 142, 13, 0, .null), (13, .aload_n 0, 14, 0, .null), (14, .getfield 10, 17, 0, .null), (17, .iload_n 1, 18, 0, .null), (18, .iload_n 2, 19, 0, .null), (19, .aload_n 0, 20, 0, .null), (20, .getfield 39, 23, 0, .null), (23, .invokestatic 145, 26, 0, .null), (26, .aload_n 0, 27, 0, .null), (27, .iload_n 3, 28, 0, .null), (28, .iconst 5, 29, 0, .int (5)), (29, .invokevirtual 120, 32, 0, .null), (32, .ireturn, 33, 0, .null)]
theorem okX7_part : okP cX7_part RX7 tX7_part = true := by decide +kernel
def tX7_reverse : List En := [(0, .iload_n 1, 1, 0, .null), (1, .invokestatic 97, 4, 0, .null), (4, .iload_n 2, 5, 0, .null), (5, .invokestatic 97, 8, 0, .null), (8, .aload_n 0, 9, 0, .null), (9, .getfield 10, 12, 0, .null), (12, .iload_n 1, 13, 0, .null), (13, .aload_n 0, 14, 0, .null), (14, .getfield 39, 17, 0, .null), (17, .invokestatic 148, 20, 0, .null), (20, .aload_n 0, 21, 0, .null), (21, .iload_n 2, 22, 0, .null), (22, .bipush 6, 24, 0, .int (6)), (24, .invokevirtual 120, 27, 0, .null), (27, .ireturn, 28, 0, .null)]
theorem okX7_reverse : okP cX7_reverse RX7 tX7_reverse = true := by decide +kernel
def tX7_push : List En := [(0, .iload_n 1, 1, 0, .null), (1, .invokestatic 97, 4, 0, .null), (4, .iload_n 2, 5, 0, .null), (5, .invokestatic 97, 8, 0, .null), (8, .aload_n 0, 9, 0, .null), (9, .getfield 10, 12, 0, .null), (12, .iload_n 1, 13, 0, .null), (13, .aload_n 0, 14, 0, .null), (14, .getfield 43, 17, 0, .null), (17, .aload_n 0, 18, 0, .null), (18, .getfield 39, 21, 0, .null), (21, .invokestatic 151, 24, 0, .null), (24, .aload_n 0, 25, 0, .null), (25, .invokevirtual 117, 28, 0, .null), (28, .aload_n 0, 29, 0, .null), (29, .iload_n 2, 30, 0, .null), (30, .bipush 7, 32, 0, .int (7)), (32, .invokevirtual 120, 35, 0, .null), (35, .ireturn, 36, 0, .null)]
theorem okX7_push : okP cX7_push RX7 tX7_push = true := by decide +kernel
def tX7_append : List En := [(0, .iload_n 1, 1, 0, .null), (1, .bipush 33, 3, 0, .int (33)), (3, .if_icmp .lt 9, 6, 12, .null), (6, .iload_n 1, 7, 0, .null), (7, .bipush 126, 9, 0, .int (126)), (9, .if_icmp .le 13, 12, 22, .null), (12, .new 63, 15, 0, .null), (15, .dup, 16, 0, .null), (18, .invokespecial 67, 21, 0, .null), (21, .athrow, 22, 0, .null), (22, .aload_n 0, 23, 0, .null), (23, .getfield 35, 26, 0, .null), (26, .bipush 60, 28, 0, .int (60)), (28, .if_icmp .lt 13, 31, 41, .null), (31, .new 157, 34, 0, .null), (34, .dup, 35, 0, .null), (37, .invokespecial 161, 40, 0, .null), (40, .athrow, 41, 0, .null), (41, .aload_n 0, 42, 0, .null), (42, .getfield 31, 45, 0, .null), (45, .aload_n 0, 46, 0, .null), (46, .getfield 35, 49, 0, .null), (49, .iload_n 1, 50, 0, .null), (50, .iastore, 51, 0, .null), (51, .aload_n 0, 52, 0, .null), (52, .dup, 53, 0, .null), (53, .getfield 35, 56, 0, .null), (56, .iconst 1, 57, 0, .int (1)), (57, .iadd, 58, 0, .null), (58, .putfield 35, 61, 0, .null), (61, .aload_n 0, 62, 0, .null), (62, .getfield 35, 65, 0, .null), (65, .ireturn, 66, 0, .null)]
theorem okX7_append : okP cX7_append RX7 tX7_append = true := by decide +kernel
def tX7_clearBuffer : List En := [(0, .aload_n 0, 1, 0, .null), (1, .getfield 35, 4, 0, .null), (4, .istore_n 1, 5, 0, .null), (5, .aload_n 0, 6, 0, .null), (6, .iconst 0, 7, 0, .int (0)), (7, .putfield 35, 10, 0, .null), (10, .iload_n 1, 11, 0, .null), (11, .ireturn, 12, 0, .null)]
theorem okX7_clearBuffer : okP cX7_clearBuffer RX7 tX7_clearBuffer = true := by decide +kernel
def tX7_firstError : List En := [(0, .aload_n 0, 1, 0, .null), (1, .getfield 59, 4, 0, .null), (4, .aload_n 0, 5, 0, .null), (5, .getfield 31, 8, 0, .null), (8, .aload_n 0, 9, 0, .null), (9, .getfield 35, 12, 0, .null), (12, .aload_n 0, 13, 0, .null), (13, .getfield 10, 16, 0, .null), (16, .getfield 74, 19, 0, .null), (19, .invokevirtual 162, 22, 0, .null), (22, .ireturn, 23, 0, .null)]
theorem okX7_firstError : okP cX7_firstError RX7 tX7_firstError = true := by decide +kernel
def tX7_put : List En := [(0, .iload_n 1, 1, 0, .null), (1, .invokestatic 97, 4, 0, .null), (4, .aload_n 0, 5, 0, .null), (5, .getfield 59, 8, 0, .null), (8, .aload_n 0, 9, 0, .null), (9, .getfield 31, 12, 0, .null), (12, .aload_n 0, 13, 0, .null), (13, .getfield 35, 16, 0, .null), (16, .aload_n 0, 17, 0, .null), (17, .getfield 10, 20, 0, .null), (20, .getfield 74, 23, 0, .null), (23, .invokevirtual 162, 26, 0, .null), (26, .istore_n 2, 27, 0, .null), (27, .iload_n 2, 28, 0, .null), (28, .aload_n 0, 29, 0, .null), (29, .getfield 35, 32, 0, .null), (32, .if_icmp .lt 13, 35, 45, .null), (35, .aload_n 0, 36, 0, .null), (36, .getfield 59, 39, 0, .null), (39, .invokevirtual 166, 42, 0, .null), (42, .ifCond .ne 13, 45, 55, .null), (45, .new 63, 48, 0, .null), (48, .dup, 49, 0, .null), (51, .invokespecial 67, 54, 0, .null), (54, .athrow, 55, 0, .null), (55, .aload_n 0, 56, 0, .null), (56, .getfield 19, 59, 0, .null), (59, .aload_n 0, 60, 0, .null), (60, .getfield 10, 63, 0, .null), (63, .invokevirtual 70, 66, 0, .null), (66, .aload_n 0, 67, 0, .null), (67, .getfield 59, 70, 0, .null), (70, .getfield 172, 73, 0, .null), (73, .iconst 0, 74, 0, .int (0)), (74, .aload_n 0, 75, 0, .null), (75, .getfield 10, 78, 0, .null), (78, .getfield 104, 81, 0, .null), (81, .iload_n 1, 82, 0, .null), (82, .aaload, 83, 0, .null), (83, .iconst 0, 84, 0, .int (0)), (84, .bipush 32, 86, 0, .int (32)), (86, .invokestatic 175, 89, 0, .null), (89, .aload_n 0, 90, 0, .null), (90, .iconst 0, 91, 0, .int (0)), (91, .putfield 35, 94, 0, .null), (94, .aload_n 0, 95, 0, .null), (95, .getfield 10, 98, 0, .null), (98, .getfield 104, 101, 0, .null), (101, .iload_n 1, 102, 0, .null), (102, .aaload, 103, 0, .null), (103, .invokestatic 181, 106, 0, .null), (106, .ireturn, 107, 0, .null)]
theorem okX7_put : okP cX7_put RX7 tX7_put = true := by decide +kernel
def tX7_take : List En := [(0, .iload_n 1, 1, 0, .null), (1, .invokestatic 187, 4, 0, .null), (4, .aload_n 0, 5, 0, .null), (5, .getfield 23, 8, 0, .null), (8, .iload_n 1, 9, 0, .null), (9, .aaload, 10, 0, .null), (10, .aload_n 0, 11, 0, .null), (11, .getfield 10, 14, 0, .null), (14, .invokevirtual 190, 17, 0, .null), (17, .aload_n 0, 18, 0, .null), (18, .getfield 27, 21, 0, .null), (21, .iload_n 1, 22, 0, .null), (22, .iconst 1, 23, 0, .int (1)), (23, .bastore, 24, 0, .null), (24, .aload_n 0, 25, 0, .null), (25, .getfield 10, 28, 0, .null), (28, .invokevirtual 193, 31, 0, .null), (31, .ireturn, 32, 0, .null)]
theorem okX7_take : okP cX7_take RX7 tX7_take = true := by decide +kernel
def tX7_restore : List En := [(0, .iload_n 1, 1, 0, .null), (1, .invokestatic 187, 4, 0, .null), (4, .aload_n 0, 5, 0, .null), (5, .getfield 27, 8, 0, .null), (8, .iload_n 1, 9, 0, .null), (9, .baload, 10, 0, .null), (10, .ifCond .ne 13, 13, 23, .null), (13, .new 157, 16, 0, .null), (16, .dup, 17, 0, .null), (19, .invokespecial 161, 22, 0, .null), (22, .athrow, 23, 0, .null), (23, .aload_n 0, 24, 0, .null), (24, .getfield 19, 27, 0, .null), (27, .aload_n 0, 28, 0, .null), (28, .getfield 10, 31, 0, .null), (31, .invokevirtual 70, 34, 0, .null), (34, .aload_n 0, 35, 0, .null), (35, .getfield 10, 38, 0, .null), (38, .aload_n 0, 39, 0, .null), (39, .getfield 23, 42, 0, .null), (42, .iload_n 1, 43, 0, .null), (43, .aaload, 44, 0, .null), (44, .invokevirtual 190, 47, 0, .null), (47, .aload_n 0, 48, 0, .null), (48, .getfield 10, 51, 0, .null), (51, .invokevirtual 193, 54, 0, .null), (54, .ireturn, 55, 0, .null)]
theorem okX7_restore : okP cX7_restore RX7 tX7_restore = true := by decide +kernel
def tX7_undo : List En := [(0, .aload_n 0, 1, 0, .null), (1, .getfield 19, 4, 0, .null), (4, .getfield 198, 7, 0, .null), (7, .ifCond .ne 13, 10, 20, .null), (10, .new 157, 13, 0, .null), (13, .dup, 14, 0, .null), (16, .invokespecial 161, 19, 0, .null), (19, .athrow, 20, 0, .null), (20, .aload_n 0, 21, 0, .null), (21, .getfield 19, 24, 0, .null), (24, .aload_n 0, 25, 0, .null), (25, .getfield 10, 28, 0, .null), (28, .invokevirtual 203, 31, 0, .null), (31, .aload_n 0, 32, 0, .null), (32, .getfield 19, 35, 0, .null), (35, .getfield 198, 38, 0, .null), (38, .ireturn, 39, 0, .null)]
theorem okX7_undo : okP cX7_undo RX7 tX7_undo = true := by decide +kernel
def tX7_coefficient : List En := [(0, .iload_n 1, 1, 0, .null), (1, .invokestatic 97, 4, 0, .null), (4, .aload_n 0, 5, 0, .null), (5, .iload_n 2, 6, 0, .null), (6, .invokevirtual 100, 9, 0, .null), (9, .aload_n 0, 10, 0, .null), (10, .getfield 10, 13, 0, .null), (13, .getfield 104, 16, 0, .null), (16, .iload_n 1, 17, 0, .null), (17, .aaload, 18, 0, .null), (18, .iload_n 2, 19, 0, .null), (19, .iaload, 20, 0, .null), (20, .ireturn, 21, 0, .null)]
theorem okX7_coefficient : okP cX7_coefficient RX7 tX7_coefficient = true := by decide +kernel
def tX7_form : List En := [(0, .iload_n 1, 1, 0, .null), (1, .invokestatic 97, 4, 0, .null), (4, .iload_n 2, 5, 0, .null), (5, .ifCond .lt 9, 8, 14, .null), (8, .iload_n 2, 9, 0, .null), (9, .bipush 7, 11, 0, .int (7)), (11, .if_icmp .le 13, 14, 24, .null), (14, .new 63, 17, 0, .null), (17, .dup, 18, 0, .null), (20, .invokespecial 67, 23, 0, .null), (23, .athrow, 24, 0, .null), (24, .aload_n 0, 25, 0, .null), (25, .getfield 10, 28, 0, .null), (28, .getfield 104, 31, 0, .null), (31, .iload_n 1, 32, 0, .null), (32, .aaload, 33, 0, .null), (33, .iload_n 2, 34, 0, .null), (34, .invokestatic 208, 37, 0, .null), (37, .ireturn, 38, 0, .null)]
theorem okX7_form : okP cX7_form RX7 tX7_form = true := by decide +kernel
def tX7_inner : List En := [(0, .iload_n 1, 1, 0, .null), (1, .invokestatic 97, 4, 0, .null), (4, .iload_n 2, 5, 0, .null), (5, .invokestatic 97, 8, 0, .null), (8, .aload_n 0, 9, 0, .null), (9, .getfield 10, 12, 0, .null), (12, .iload_n 1, 13, 0, .null), (13, .iload_n 2, 14, 0, .null), (14, .invokestatic 212, 17, 0, .null), (17, .lreturn, 18, 0, .null)]
theorem okX7_inner : okP cX7_inner RX7 tX7_inner = true := by decide +kernel
def tX7_decomposable : List En := [(0, .iload_n 1, 1, 0, .null), (1, .invokestatic 97, 4, 0, .null), (4, .iload_n 2, 5, 0, .null), (5, .ifCond .eq 18, 8, 23, .null), (8, .iload_n 2, 9, 0, .null), (9, .iconst 1, 10, 0, .int (1)), (10, .if_icmp .eq 13, 13, 23, .null), (13, .new 63, 16, 0, .null), (16, .dup, 17, 0, .null), (19, .invokespecial 67, 22, 0, .null), (22, .athrow, 23, 0, .null), (23, .iload_n 2, 24, 0, .null), (24, .ifCond .ne 11, 27, 35, .null), (27, .aload_n 0, 28, 0, .null), (28, .iload_n 1, 29, 0, .null), (29, .invokevirtual 218, 32, 0, .null), (32, .goto 8, 35, 40, .null), (35, .aload_n 0, 36, 0, .null), (36, .iload_n 1, 37, 0, .null), (37, .invokevirtual 222, 40, 0, .null), (40, .ireturn, 41, 0, .null)]
theorem okX7_decomposable : okP cX7_decomposable RX7 tX7_decomposable = true := by decide +kernel
def tX7_factor : List En := [(0, .iload_n 1, 1, 0, .null), (1, .invokestatic 97, 4, 0, .null), (4, .aload_n 0, 5, 0, .null), (5, .iload_n 3, 6, 0, .null), (6, .invokevirtual 81, 9, 0, .null), (9, .iload_n 2, 10, 0, .null), (10, .invokestatic 225, 13, 0, .null), (13, .iload_n 2, 14, 0, .null), (14, .aload_n 0, 15, 0, .null), (15, .iload_n 1, 16, 0, .null), (16, .invokevirtual 228, 19, 0, .null), (19, .if_icmp .lt 6, 22, 25, .null), (22, .ldc 231, 24, 0, .int (-1000000000)), (24, .ireturn, 25, 0, .null), (25, .aload_n 0, 26, 0, .null), (26, .getfield 10, 29, 0, .null), (29, .getfield 104, 32, 0, .null), (32, .iload_n 1, 33, 0, .null), (33, .aaload, 34, 0, .null), (34, .iload_n 2, 35, 0, .null), (35, .iload_n 3, 36, 0, .null), (36, .invokestatic 232, 39, 0, .null), (39, .ireturn, 40, 0, .null)]
theorem okX7_factor : okP cX7_factor RX7 tX7_factor = true := by decide +kernel
def tX7_annihilator : List En := [(0, .iload_n 1, 1, 0, .null), (1, .invokestatic 97, 4, 0, .null), (4, .aload_n 0, 5, 0, .null), (5, .getfield 52, 8, 0, .null), (8, .aload_n 0, 9, 0, .null), (9, .getfield 10, 12, 0, .null), (12, .getfield 104, 15, 0, .null), (15, .iload_n 1, 16, 0, .null), (16, .aaload, 17, 0, .null), (17, .aload_n 0, 18, 0, .null), (18, .getfield 10, 21, 0, .null), (21, .getfield 74, 24, 0, .null), (24, .invokevirtual 235, 27, 0, .null), (27, .ireturn, 28, 0, .null)]
theorem okX7_annihilator : okP cX7_annihilator RX7 tX7_annihilator = true := by decide +kernel
def tX7_basis : List En := [(0, .iload_n 1, 1, 0, .null), (1, .invokestatic 97, 4, 0, .null), (4, .aload_n 0, 5, 0, .null), (5, .iload_n 3, 6, 0, .null), (6, .invokevirtual 81, 9, 0, .null), (9, .iload_n 2, 10, 0, .null), (10, .invokestatic 225, 13, 0, .null), (13, .aload_n 0, 14, 0, .null), (14, .getfield 52, 17, 0, .null), (17, .aload_n 0, 18, 0, .null), (18, .getfield 10, 21, 0, .null), (21, .getfield 104, 24, 0, .null), (24, .iload_n 1, 25, 0, .null), (25, .aaload, 26, 0, .null), (26, .aload_n 0, 27, 0, .null), (27, .getfield 10, 30, 0, .null), (30, .getfield 74, 33, 0, .null), (33, .invokevirtual 235, 36, 0, .null), (36, .istore 4, 38, 0, .null), (38, .iload_n 2, 39, 0, .null), (39, .iload 4, 41, 0, .null), (41, .if_icmp .ge 15, 44, 56, .null), (44, .aload_n 0, 45, 0, .null), (45, .getfield 52, 48, 0, .null), (48, .iload_n 2, 49, 0, .null), (49, .iload_n 3, 50, 0, .null), (50, .invokevirtual 238, 53, 0, .null), (53, .goto 5, 56, 58, .null), (56, .ldc 231, 58, 0, .int (-1000000000)), (58, .ireturn, 59, 0, .null)]
theorem okX7_basis : okP cX7_basis RX7 tX7_basis = true := by decide +kernel
def tX7_refused : List En := [(0, .iload_n 2, 1, 0, .null), (1, .invokestatic 97, 4, 0, .null), (4, .iload_n 3, 5, 0, .null), (5, .invokestatic 97, 8, 0, .null), (8, .iload_n 1, 9, 0, .null), (40, .aload_n 0, 41, 0, .null), (41, .getfield 10, 44, 0, .null), (44, .iload_n 2, 45, 0, .null), (45, .iload_n 3, 46, 0, .null), (46, .aload_n 0, 47, 0, .null), (47, .getfield 39, 50, 0, .null), (50, .invokestatic 111, 53, 0, .null), (53, .goto 83, 56, 136, .null), (56, .aload_n 0, 57, 0, .null), (57, .getfield 10, 60, 0, .null), (60, .getfield 104, 63, 0, .null), (63, .iload_n 2, 64, 0, .null), (64, .aaload, 65, 0, .null), (65, .aload_n 0, 66, 0, .null), (66, .getfield 10, 69, 0, .null), (69, .getfield 104, 72, 0, .null), (72, .iload_n 3, 73, 0, .null), (73, .aaload, 74, 0, .null), (74, .aload_n 0, 75, 0, .null), (75, .getfield 10, 78, 0, .null), (78, .invokevirtual 127, 81, 0, .null), (81, .aload_n 0, 82, 0, .null), (82, .getfield 39, 85, 0, .null), (85, .invokestatic 131, 88, 0, .null), (88, .goto 48, 91, 136, .null), (91, .aload_n 0, 92, 0, .null), (92, .getfield 10, 95, 0, .null), (95, .iload_n 2, 96, 0, .null), (96, .iload_n 3, 97, 0, .null), (97, .aload_n 0, 98, 0, .null), (98, .getfield 39, 101, 0, .null), (101, .invokestatic 135, 104, 0, .null), (104, .goto 32, 107, 136, .null), (107, .aload_n 0, 108, 0, .null), (108, .getfield 10, 111, 0, .null), (111, .iload_n 2, 112, 0, .null), (112, .aload_n 0, 113, 0, .null), (113, .getfield 43, 116, 0, .null), (116, .aload_n 0, 117, 0, .null), (117, .getfield 39, 120, 0, .null), (120, .invokestatic 151, 123, 0, .null), (123, .goto 13, 126, 136, .null), (126, .new 63, 129, 0, .null), (129, .dup, 130, 0, .null), (132, .invokespecial 67, 135, 0, .null), (135, .athrow, 136, 0, .null), (136, .aload_n 0, 137, 0, .null), (137, .invokevirtual 243, 140, 0, .null), (140, .ireturn, 141, 0, .null)]
theorem okX7_refused : okP cX7_refused RX7 tX7_refused = true := by decide +kernel
theorem swX7_refused_9 : decode cX7_refused 9 = .ok (.tableswitch 117 0 3 #[31, 47, 82, 98], 31) := by decide +kernel
def tX7_compare : List En := [(0, .iload_n 1, 1, 0, .null), (1, .invokestatic 97, 4, 0, .null), (4, .iload_n 2, 5, 0, .null), (5, .invokestatic 97, 8, 0, .null), (8, .aload_n 0, 9, 0, .null), (9, .getfield 10, 12, 0, .null), (12, .getfield 104, 15, 0, .null), (15, .iload_n 1, 16, 0, .null), (16, .aaload, 17, 0, .null), (17, .astore_n 3, 18, 0, .null), (18, .aload_n 0, 19, 0, .null), (19, .getfield 10, 22, 0, .null), (22, .getfield 104, 25, 0, .null), (25, .iload_n 2, 26, 0, .null), (26, .aaload, 27, 0, .null), (27, .astore 4, 29, 0, .null), (29, .aload_n 3, 30, 0, .null), (30, .aload 4, 32, 0, .null), (32, .invokestatic 246, 35, 0, .null), (35, .ifCond .eq 5, 38, 40, .null), (38, .iconst 0, 39, 0, .int (0)), (39, .ireturn, 40, 0, .null), (40, .aload_n 3, 41, 0, .null), (41, .aload 4, 43, 0, .null), (43, .invokestatic 250, 46, 0, .null), (46, .ifCond .eq 5, 49, 51, .null), (49, .iconst 1, 50, 0, .int (1)), (50, .ireturn, 51, 0, .null), (51, .aload_n 3, 52, 0, .null), (52, .aload 4, 54, 0, .null), (54, .aload_n 0, 55, 0, .null), (55, .getfield 10, 58, 0, .null), (58, .invokevirtual 127, 61, 0, .null), (61, .aload_n 0, 62, 0, .null), (62, .getfield 39, 65, 0, .null), (65, .invokestatic 131, 68, 0, .null), (68, .aload_n 0, 69, 0, .null), (69, .invokevirtual 253, 72, 0, .null), (72, .ifCond .eq 7, 75, 79, .null), (75, .iconst 2, 76, 0, .int (2)), (76, .goto 4, 79, 80, .null), (79, .iconst 3, 80, 0, .int (3)), (80, .ireturn, 81, 0, .null)]
theorem okX7_compare : okP cX7_compare RX7 tX7_compare = true := by decide +kernel
def tX7_count : List En := [(0, .iload_n 1, 1, 0, .null), (1, .iconst 5, 2, 0, .int (5)), (2, .if_icmp .lt 21, 5, 23, .null), (5, .iload_n 1, 6, 0, .null), (6, .bipush 14, 8, 0, .int (14)), (8, .if_icmp .ge 15, 11, 23, .null), (11, .aload_n 0, 12, 0, .null), (12, .getfield 10, 15, 0, .null), (15, .getfield 256, 18, 0, .null), (18, .iload_n 1, 19, 0, .null), (19, .iconst 5, 20, 0, .int (5)), (20, .isub, 21, 0, .null), (21, .iaload, 22, 0, .null), (22, .ireturn, 23, 0, .null), (23, .iload_n 1, 24, 0, .null), (24, .bipush 20, 26, 0, .int (20)), (26, .if_icmp .lt 18, 29, 44, .null), (29, .iload_n 1, 30, 0, .null), (30, .bipush 24, 32, 0, .int (24)), (32, .if_icmp .gt 12, 35, 44, .null), (35, .aload_n 0, 36, 0, .null), (36, .iload_n 1, 37, 0, .null), (37, .bipush 20, 39, 0, .int (20)), (39, .isub, 40, 0, .null), (40, .invokevirtual 259, 43, 0, .null), (43, .ireturn, 44, 0, .null), (44, .iload_n 1, 45, 0, .null), (120, .aload_n 0, 121, 0, .null), (121, .getfield 10, 124, 0, .null), (124, .getfield 74, 127, 0, .null), (127, .ireturn, 128, 0, .null), (128, .aload_n 0, 129, 0, .null), (129, .getfield 10, 132, 0, .null), (132, .invokevirtual 193, 135, 0, .null), (135, .ireturn, 136, 0, .null), (136, .aload_n 0, 137, 0, .null), (137, .getfield 19, 140, 0, .null), (140, .getfield 198, 143, 0, .null), (143, .ireturn, 144, 0, .null), (144, .aload_n 0, 145, 0, .null), (145, .getfield 10, 148, 0, .null), (148, .aload_n 0, 149, 0, .null), (149, .getfield 43, 152, 0, .null), (152, .invokestatic 262, 155, 0, .null), (155, .ireturn, 156, 0, .null), (156, .aload_n 0, 157, 0, .null), (157, .getfield 10, 160, 0, .null), (160, .getfield 86, 163, 0, .null), (163, .aload_n 0, 164, 0, .null), (164, .getfield 10, 167, 0, .null), (167, .invokevirtual 127, 170, 0, .null), (170, .iconst 1, 171, 0, .int (1)), (171, .isub, 172, 0, .null), (172, .invokestatic 266, 175, 0, .null), (175, .ireturn, 176, 0, .null), (176, .aload_n 0, 177, 0, .null), (177, .invokevirtual 269, 180, 0, .null), (180, .ireturn, 181, 0, .null), (181, .new 63, 184, 0, .null), (184, .dup, 185, 0, .null), (188, .invokespecial 67, 191, 0, .null), (191, .athrow, 192, 0, .null)]
theorem okX7_count : okP cX7_count RX7 tX7_count = true := by decide +kernel
theorem swX7_count_45 : decode cX7_count 45 = .ok (.tableswitch 136 0 14 #[75, 83, 91, 99, 111, 136, 136, 136, 136, 136, 136, 136, 136, 136, 131], 75) := by decide +kernel
def tX7_matrixAt : List En := [(0, .aload_n 0, 1, 0, .null), (1, .iload_n 1, 2, 0, .null), (2, .invokevirtual 81, 5, 0, .null), (5, .aload_n 0, 6, 0, .null), (6, .iload_n 2, 7, 0, .null), (7, .invokevirtual 81, 10, 0, .null), (10, .aload_n 0, 11, 0, .null), (11, .getfield 10, 14, 0, .null), (14, .getfield 93, 17, 0, .null), (17, .iload_n 1, 18, 0, .null), (18, .aaload, 19, 0, .null), (19, .iload_n 2, 20, 0, .null), (20, .iaload, 21, 0, .null), (21, .ireturn, 22, 0, .null)]
theorem okX7_matrixAt : okP cX7_matrixAt RX7 tX7_matrixAt = true := by decide +kernel
def tX7_density : List En := [(0, .iload_n 1, 1, 0, .null), (1, .invokestatic 97, 4, 0, .null), (4, .aload_n 0, 5, 0, .null), (5, .getfield 10, 8, 0, .null), (8, .getfield 104, 11, 0, .null), (11, .iload_n 1, 12, 0, .null), (12, .aaload, 13, 0, .null), (13, .aload_n 0, 14, 0, .null), (14, .getfield 10, 17, 0, .null), (17, .invokevirtual 127, 20, 0, .null), (20, .invokestatic 274, 23, 0, .null), (23, .freturn, 24, 0, .null)]
theorem okX7_density : okP cX7_density RX7 tX7_density = true := by decide +kernel
def tX7_share : List En := [(0, .iload_n 1, 1, 0, .null), (1, .invokestatic 97, 4, 0, .null), (4, .aload_n 0, 5, 0, .null), (5, .iload_n 2, 6, 0, .null), (6, .invokevirtual 142, 9, 0, .null), (9, .aload_n 0, 10, 0, .null), (10, .getfield 10, 13, 0, .null), (13, .getfield 104, 16, 0, .null), (16, .iload_n 1, 17, 0, .null), (17, .aaload, 18, 0, .null), (18, .iload_n 2, 19, 0, .null), (19, .invokestatic 278, 22, 0, .null), (22, .dreturn, 23, 0, .null)]
theorem okX7_share : okP cX7_share RX7 tX7_share = true := by decide +kernel
def tX7_digest : List En := [(0, .aload_n 0, 1, 0, .null), (1, .ldc2_w 282, 4, 0, .long (2423)), (4, .invokevirtual 284, 7, 0, .null), (7, .lstore_n 1, 8, 0, .null), (8, .aload_n 0, 9, 0, .null), (9, .lload_n 1, 10, 0, .null), (10, .invokevirtual 288, 13, 0, .null), (13, .lstore_n 1, 14, 0, .null), (14, .iconst 0, 15, 0, .int (0)), (15, .istore_n 3, 16, 0, .null), (16, .iload_n 3, 17, 0, .null), (17, .bipush 8, 19, 0, .int (8)), (19, .if_icmp .ge 16, 22, 35, .null), (22, .aload_n 0, 23, 0, .null), (23, .lload_n 1, 24, 0, .null), (24, .iload_n 3, 25, 0, .null), (25, .invokevirtual 291, 28, 0, .null), (28, .lstore_n 1, 29, 0, .null), (29, .iinc 3 1, 32, 0, .int (1)), (32, .goto (-16), 35, 16, .null), (35, .iconst 1, 36, 0, .int (1)), (36, .istore_n 3, 37, 0, .null), (37, .iload_n 3, 38, 0, .null), (38, .iconst 3, 39, 0, .int (3)), (39, .if_icmp .gt 24, 42, 63, .null), (42, .ldc2_w 295, 45, 0, .long (31)), (45, .lload_n 1, 46, 0, .null), (46, .lmul, 47, 0, .null), (47, .aload_n 0, 48, 0, .null), (48, .iload_n 3, 49, 0, .null), (49, .iconst 0, 50, 0, .int (0)), (50, .iconst 1, 51, 0, .int (1)), (51, .invokevirtual 297, 54, 0, .null), (54, .i2l, 55, 0, .null), (55, .ladd, 56, 0, .null), (56, .lstore_n 1, 57, 0, .null), (57, .iinc 3 1, 60, 0, .int (1)), (60, .goto (-23), 63, 37, .null), (63, .ldc2_w 295, 66, 0, .long (31)), (66, .lload_n 1, 67, 0, .null), (67, .lmul, 68, 0, .null), (68, .aload_n 0, 69, 0, .null), (69, .getfield 35, 72, 0, .null), (72, .i2l, 73, 0, .null), (73, .ladd, 74, 0, .null), (74, .lstore_n 1, 75, 0, .null), (75, .iconst 0, 76, 0, .int (0)), (76, .istore_n 3, 77, 0, .null), (77, .iload_n 3, 78, 0, .null), (78, .aload_n 0, 79, 0, .null), (79, .getfield 35, 82, 0, .null), (82, .if_icmp .ge 23, 85, 105, .null), (85, .ldc2_w 295, 88, 0, .long (31)), (88, .lload_n 1, 89, 0, .null), (89, .lmul, 90, 0, .null), (90, .aload_n 0, 91, 0, .null), (91, .getfield 31, 94, 0, .null), (94, .iload_n 3, 95, 0, .null), (95, .iaload, 96, 0, .null), (96, .i2l, 97, 0, .null), (97, .ladd, 98, 0, .null), (98, .lstore_n 1, 99, 0, .null), (99, .iinc 3 1, 102, 0, .int (1)), (102, .goto (-25), 105, 77, .null), (105, .lload_n 1, 106, 0, .null), (106, .lreturn, 107, 0, .null)]
theorem okX7_digest : okP cX7_digest RX7 tX7_digest = true := by decide +kernel
def tX7_requireSlot : List En := [(0, .iload_n 0, 1, 0, .null), (1, .ifCond .lt 9, 4, 10, .null), (4, .iload_n 0, 5, 0, .null), (5, .bipush 8, 7, 0, .int (8)), (7, .if_icmp .lt 14, 10, 21, .null), (10, .new 301, 13, 0, .null), (13, .dup, 14, 0, .null), (17, .invokespecial 305, 20, 0, .null), (20, .athrow, 21, 0, .null), (21, .return_, 22, 0, .null)]
theorem okX7_requireSlot : okP cX7_requireSlot RX7 tX7_requireSlot = true := by decide +kernel
def tX7_requireSlots : List En := [(0, .iload_n 0, 1, 0, .null), (1, .invokestatic 97, 4, 0, .null), (4, .iload_n 1, 5, 0, .null), (5, .invokestatic 97, 8, 0, .null), (8, .iload_n 2, 9, 0, .null), (9, .invokestatic 97, 12, 0, .null), (12, .return_, 13, 0, .null)]
theorem okX7_requireSlots : okP cX7_requireSlots RX7 tX7_requireSlots = true := by decide +kernel
def tX7_requireBlade : List En := [(0, .iload_n 1, 1, 0, .null), (1, .ifCond .lt 14, 4, 15, .null), (4, .iload_n 1, 5, 0, .null), (5, .aload_n 0, 6, 0, .null), (6, .getfield 10, 9, 0, .null), (9, .invokevirtual 127, 12, 0, .null), (12, .if_icmp .lt 14, 15, 26, .null), (15, .new 301, 18, 0, .null), (18, .dup, 19, 0, .null), (22, .invokespecial 305, 25, 0, .null), (25, .athrow, 26, 0, .null), (26, .return_, 27, 0, .null)]
theorem okX7_requireBlade : okP cX7_requireBlade RX7 tX7_requireBlade = true := by decide +kernel
def tX7_requireDirection : List En := [(0, .iload_n 1, 1, 0, .null), (1, .ifCond .lt 14, 4, 15, .null), (4, .iload_n 1, 5, 0, .null), (5, .aload_n 0, 6, 0, .null), (6, .getfield 10, 9, 0, .null), (9, .getfield 74, 12, 0, .null), (12, .if_icmp .lt 14, 15, 26, .null), (15, .new 301, 18, 0, .null), (18, .dup, 19, 0, .null), (22, .invokespecial 305, 25, 0, .null), (25, .athrow, 26, 0, .null), (26, .return_, 27, 0, .null)]
theorem okX7_requireDirection : okP cX7_requireDirection RX7 tX7_requireDirection = true := by decide +kernel
def tX7_requireSnapshot : List En := [(0, .iload_n 0, 1, 0, .null), (1, .ifCond .lt 8, 4, 9, .null), (4, .iload_n 0, 5, 0, .null), (5, .iconst 2, 6, 0, .int (2)), (6, .if_icmp .lt 14, 9, 20, .null), (9, .new 301, 12, 0, .null), (12, .dup, 13, 0, .null), (16, .invokespecial 305, 19, 0, .null), (19, .athrow, 20, 0, .null), (20, .return_, 21, 0, .null)]
theorem okX7_requireSnapshot : okP cX7_requireSnapshot RX7 tX7_requireSnapshot = true := by decide +kernel
def tX7_requireGrade : List En := [(0, .iload_n 1, 1, 0, .null), (1, .ifCond .lt 14, 4, 15, .null), (4, .iload_n 1, 5, 0, .null), (5, .aload_n 0, 6, 0, .null), (6, .getfield 10, 9, 0, .null), (9, .getfield 74, 12, 0, .null), (12, .if_icmp .le 14, 15, 26, .null), (15, .new 63, 18, 0, .null), (18, .dup, 19, 0, .null), (22, .invokespecial 67, 25, 0, .null), (25, .athrow, 26, 0, .null), (26, .return_, 27, 0, .null)]
theorem okX7_requireGrade : okP cX7_requireGrade RX7 tX7_requireGrade = true := by decide +kernel
def tX7_requirePlace : List En := [(0, .iload_n 0, 1, 0, .null), (1, .ifCond .lt 8, 4, 9, .null), (4, .iload_n 0, 5, 0, .null), (5, .iconst 5, 6, 0, .int (5)), (6, .if_icmp .lt 14, 9, 20, .null), (9, .new 63, 12, 0, .null), (12, .dup, 13, 0, .null), (16, .invokespecial 67, 19, 0, .null), (19, .athrow, 20, 0, .null), (20, .return_, 21, 0, .null)]
theorem okX7_requirePlace : okP cX7_requirePlace RX7 tX7_requirePlace = true := by decide +kernel
def tX7_requireSize : List En := [(0, .iload_n 0, 1, 0, .null), (1, .iload_n 1, 2, 0, .null), (2, .ineg, 3, 0, .null), (3, .if_icmp .lt 8, 6, 11, .null), (6, .iload_n 0, 7, 0, .null), (7, .iload_n 1, 8, 0, .null), (8, .if_icmp .le 14, 11, 22, .null), (11, .new 63, 14, 0, .null), (14, .dup, 15, 0, .null), (18, .invokespecial 67, 21, 0, .null), (21, .athrow, 22, 0, .null), (22, .return_, 23, 0, .null)]
theorem okX7_requireSize : okP cX7_requireSize RX7 tX7_requireSize = true := by decide +kernel
def tX7_firstTooLarge : List En := [(0, .iconst 0, 1, 0, .int (0)), (1, .istore_n 1, 2, 0, .null), (2, .iload_n 1, 3, 0, .null), (3, .aload_n 0, 4, 0, .null), (4, .getfield 10, 7, 0, .null), (7, .invokevirtual 127, 10, 0, .null), (10, .if_icmp .ge 37, 13, 47, .null), (13, .aload_n 0, 14, 0, .null), (14, .getfield 39, 17, 0, .null), (17, .iload_n 1, 18, 0, .null), (18, .laload, 19, 0, .null), (19, .ldc2_w 318, 22, 0, .long (-100000000)), (22, .lcmp, 23, 0, .null), (23, .ifCond .lt 16, 26, 39, .null), (26, .aload_n 0, 27, 0, .null), (27, .getfield 39, 30, 0, .null), (30, .iload_n 1, 31, 0, .null), (31, .laload, 32, 0, .null), (32, .ldc2_w 320, 35, 0, .long (100000000)), (35, .lcmp, 36, 0, .null), (36, .ifCond .le 5, 39, 41, .null), (39, .iload_n 1, 40, 0, .null), (40, .ireturn, 41, 0, .null), (41, .iinc 1 1, 44, 0, .int (1)), (44, .goto (-42), 47, 2, .null), (47, .ldc 231, 49, 0, .int (-1000000000)), (49, .ireturn, 50, 0, .null)]
theorem okX7_firstTooLarge : okP cX7_firstTooLarge RX7 tX7_firstTooLarge = true := by decide +kernel
def tX7_requireFits : List En := [(0, .aload_n 0, 1, 0, .null), (1, .invokevirtual 243, 4, 0, .null), (4, .ldc 231, 6, 0, .int (-1000000000)), (6, .if_icmp .eq 14, 9, 20, .null), (9, .new 157, 12, 0, .null), (12, .dup, 13, 0, .null), (16, .invokespecial 161, 19, 0, .null), (19, .athrow, 20, 0, .null), (20, .return_, 21, 0, .null)]
theorem okX7_requireFits : okP cX7_requireFits RX7 tX7_requireFits = true := by decide +kernel
def tX7_resultIsZero : List En := [(0, .iconst 0, 1, 0, .int (0)), (1, .istore_n 1, 2, 0, .null), (2, .iload_n 1, 3, 0, .null), (3, .aload_n 0, 4, 0, .null), (4, .getfield 10, 7, 0, .null), (7, .invokevirtual 127, 10, 0, .null), (10, .if_icmp .ge 22, 13, 32, .null), (13, .aload_n 0, 14, 0, .null), (14, .getfield 39, 17, 0, .null), (17, .iload_n 1, 18, 0, .null), (18, .laload, 19, 0, .null), (19, .lconst 0, 20, 0, .long 0), (20, .lcmp, 21, 0, .null), (21, .ifCond .eq 5, 24, 26, .null), (24, .iconst 0, 25, 0, .int (0)), (25, .ireturn, 26, 0, .null), (26, .iinc 1 1, 29, 0, .int (1)), (29, .goto (-27), 32, 2, .null), (32, .iconst 1, 33, 0, .int (1)), (33, .ireturn, 34, 0, .null)]
theorem okX7_resultIsZero : okP cX7_resultIsZero RX7 tX7_resultIsZero = true := by decide +kernel
def tX7_storeResult : List En := [(0, .aload_n 0, 1, 0, .null), (1, .getfield 19, 4, 0, .null), (4, .aload_n 0, 5, 0, .null), (5, .getfield 10, 8, 0, .null), (8, .invokevirtual 70, 11, 0, .null), (11, .aload_n 0, 12, 0, .null), (12, .getfield 10, 15, 0, .null), (15, .getfield 104, 18, 0, .null), (18, .iload_n 1, 19, 0, .null), (19, .aaload, 20, 0, .null), (20, .astore_n 3, 21, 0, .null), (21, .iconst 0, 22, 0, .int (0)), (22, .istore 4, 24, 0, .null), (24, .iload 4, 26, 0, .null), (26, .aload_n 0, 27, 0, .null), (27, .getfield 10, 30, 0, .null), (30, .invokevirtual 127, 33, 0, .null), (33, .if_icmp .ge 21, 36, 54, .null), (36, .aload_n 3, 37, 0, .null), (37, .iload 4, 39, 0, .null), (39, .aload_n 0, 40, 0, .null), (40, .getfield 39, 43, 0, .null), (43, .iload 4, 45, 0, .null), (45, .laload, 46, 0, .null), (46, .l2i, 47, 0, .null), (47, .iastore, 48, 0, .null), (48, .iinc 4 1, 51, 0, .int (1)), (51, .goto (-27), 54, 24, .null), (54, .aload_n 3, 55, 0, .null), (55, .invokestatic 181, 58, 0, .null), (58, .istore 4, 60, 0, .null), (60, .aload_n 0, 61, 0, .null), (61, .getfield 10, 64, 0, .null), (64, .getfield 256, 67, 0, .null), (67, .iload_n 2, 68, 0, .null), (68, .dup2, 69, 0, .null), (69, .iaload, 70, 0, .null), (70, .iconst 1, 71, 0, .int (1)), (71, .iadd, 72, 0, .null), (72, .iastore, 73, 0, .null), (73, .iload 4, 75, 0, .null), (75, .ifCond .ne 17, 78, 92, .null), (78, .aload_n 0, 79, 0, .null), (79, .getfield 10, 82, 0, .null), (82, .getfield 256, 85, 0, .null), (85, .bipush 8, 87, 0, .int (8)), (87, .dup2, 88, 0, .null), (88, .iaload, 89, 0, .null), (89, .iconst 1, 90, 0, .int (1)), (90, .iadd, 91, 0, .null), (91, .iastore, 92, 0, .null), (92, .iload 4, 94, 0, .null), (94, .ireturn, 95, 0, .null)]
theorem okX7_storeResult : okP cX7_storeResult RX7 tX7_storeResult = true := by decide +kernel
def tX7_decomposableAsTold : List En := [(0, .aload_n 0, 1, 0, .null), (1, .getfield 10, 4, 0, .null), (4, .getfield 104, 7, 0, .null), (7, .iload_n 1, 8, 0, .null), (8, .aaload, 9, 0, .null), (9, .astore_n 2, 10, 0, .null), (10, .aload_n 2, 11, 0, .null), (11, .invokestatic 324, 14, 0, .null), (14, .istore_n 3, 15, 0, .null), (15, .iload_n 3, 16, 0, .null), (16, .ldc 231, 18, 0, .int (-1000000000)), (18, .if_icmp .ne 6, 21, 24, .null), (21, .ldc 231, 23, 0, .int (-1000000000)), (23, .ireturn, 24, 0, .null), (24, .iconst 0, 25, 0, .int (0)), (25, .istore 4, 27, 0, .null), (27, .iload 4, 29, 0, .null), (29, .aload_n 0, 30, 0, .null), (30, .getfield 10, 33, 0, .null), (33, .invokevirtual 127, 36, 0, .null), (36, .if_icmp .ge 32, 39, 68, .null), (39, .iload 4, 41, 0, .null), (41, .invokestatic 327, 44, 0, .null), (44, .iload_n 3, 45, 0, .null), (45, .iconst 1, 46, 0, .int (1)), (46, .isub, 47, 0, .null), (47, .if_icmp .ne 15, 50, 62, .null), (50, .aload_n 0, 51, 0, .null), (51, .aload_n 2, 52, 0, .null), (52, .iload 4, 54, 0, .null), (54, .invokevirtual 332, 57, 0, .null), (57, .ifCond .ne 5, 60, 62, .null), (60, .iconst 0, 61, 0, .int (0)), (61, .ireturn, 62, 0, .null), (62, .iinc 4 1, 65, 0, .int (1)), (65, .goto (-38), 68, 27, .null), (68, .iconst 1, 69, 0, .int (1)), (69, .ireturn, 70, 0, .null)]
theorem okX7_decomposableAsTold : okP cX7_decomposableAsTold RX7 tX7_decomposableAsTold = true := by decide +kernel
def tX7_wedgeWithPartnerIsZero : List En := [(0, .iconst 0, 1, 0, .int (0)), (1, .istore_n 3, 2, 0, .null), (2, .iload_n 3, 3, 0, .null), (3, .aload_n 0, 4, 0, .null), (4, .getfield 10, 7, 0, .null), (7, .getfield 74, 10, 0, .null), (10, .if_icmp .ge 23, 13, 33, .null), (13, .aload_n 0, 14, 0, .null), (14, .getfield 46, 17, 0, .null), (17, .iconst 1, 18, 0, .int (1)), (18, .iload_n 3, 19, 0, .null), (19, .ishl, 20, 0, .null), (20, .aload_n 1, 21, 0, .null), (21, .iload_n 2, 22, 0, .null), (22, .iload_n 3, 23, 0, .null), (23, .invokestatic 336, 26, 0, .null), (26, .iastore, 27, 0, .null), (27, .iinc 3 1, 30, 0, .int (1)), (30, .goto (-28), 33, 2, .null), (33, .aload_n 1, 34, 0, .null), (34, .aload_n 0, 35, 0, .null), (35, .getfield 46, 38, 0, .null), (38, .aload_n 0, 39, 0, .null), (39, .getfield 10, 42, 0, .null), (42, .invokevirtual 127, 45, 0, .null), (45, .aload_n 0, 46, 0, .null), (46, .getfield 39, 49, 0, .null), (49, .invokestatic 131, 52, 0, .null), (52, .aload_n 0, 53, 0, .null), (53, .invokevirtual 253, 56, 0, .null), (56, .ireturn, 57, 0, .null)]
theorem okX7_wedgeWithPartnerIsZero : okP cX7_wedgeWithPartnerIsZero RX7 tX7_wedgeWithPartnerIsZero = true := by decide +kernel
def tX7_decomposableByAnnihilator : List En := [(0, .aload_n 0, 1, 0, .null), (1, .getfield 10, 4, 0, .null), (4, .getfield 104, 7, 0, .null), (7, .iload_n 1, 8, 0, .null), (8, .aaload, 9, 0, .null), (9, .astore_n 2, 10, 0, .null), (10, .aload_n 2, 11, 0, .null), (11, .invokestatic 324, 14, 0, .null), (14, .istore_n 3, 15, 0, .null), (15, .aload_n 0, 16, 0, .null), (16, .getfield 52, 19, 0, .null), (19, .aload_n 2, 20, 0, .null), (20, .aload_n 0, 21, 0, .null), (21, .getfield 10, 24, 0, .null), (24, .getfield 74, 27, 0, .null), (27, .invokevirtual 235, 30, 0, .null), (30, .istore 4, 32, 0, .null), (32, .iload_n 3, 33, 0, .null), (33, .ldc 231, 35, 0, .int (-1000000000)), (35, .if_icmp .eq 10, 38, 45, .null), (38, .iload 4, 40, 0, .null), (40, .ldc 231, 42, 0, .int (-1000000000)), (42, .if_icmp .ne 6, 45, 48, .null), (45, .ldc 231, 47, 0, .int (-1000000000)), (47, .ireturn, 48, 0, .null), (48, .iload 4, 50, 0, .null), (50, .iload_n 3, 51, 0, .null), (51, .if_icmp .ne 7, 54, 58, .null), (54, .iconst 1, 55, 0, .int (1)), (55, .goto 4, 58, 59, .null), (58, .iconst 0, 59, 0, .int (0)), (59, .ireturn, 60, 0, .null)]
theorem okX7_decomposableByAnnihilator : okP cX7_decomposableByAnnihilator RX7 tX7_decomposableByAnnihilator = true := by decide +kernel
def tX7_countFactors : List En := [(0, .aload_n 0, 1, 0, .null), (1, .iload_n 1, 2, 0, .null), (2, .invokevirtual 218, 5, 0, .null), (5, .iconst 1, 6, 0, .int (1)), (6, .if_icmp .ne 18, 9, 24, .null), (9, .aload_n 0, 10, 0, .null), (10, .getfield 10, 13, 0, .null), (13, .getfield 104, 16, 0, .null), (16, .iload_n 1, 17, 0, .null), (17, .aaload, 18, 0, .null), (18, .invokestatic 324, 21, 0, .null), (21, .goto 4, 24, 25, .null), (24, .iconst 0, 25, 0, .int (0)), (25, .ireturn, 26, 0, .null)]
theorem okX7_countFactors : okP cX7_countFactors RX7 tX7_countFactors = true := by decide +kernel
def tX7_signOrZero : List En := [(0, .iload_n 1, 1, 0, .null), (1, .aload_n 0, 2, 0, .null), (2, .getfield 10, 5, 0, .null), (5, .getfield 74, 8, 0, .null), (8, .if_icmp .ge 15, 11, 23, .null), (11, .aload_n 0, 12, 0, .null), (12, .getfield 10, 15, 0, .null), (15, .getfield 86, 18, 0, .null), (18, .iload_n 1, 19, 0, .null), (19, .iaload, 20, 0, .null), (20, .goto 4, 23, 24, .null), (23, .iconst 0, 24, 0, .int (0)), (24, .ireturn, 25, 0, .null)]
theorem okX7_signOrZero : okP cX7_signOrZero RX7 tX7_signOrZero = true := by decide +kernel
def tX7_countTaken : List En := [(0, .iconst 0, 1, 0, .int (0)), (1, .istore_n 1, 2, 0, .null), (2, .iconst 0, 3, 0, .int (0)), (3, .istore_n 2, 4, 0, .null), (4, .iload_n 2, 5, 0, .null), (5, .iconst 2, 6, 0, .int (2)), (6, .if_icmp .ge 21, 9, 27, .null), (9, .aload_n 0, 10, 0, .null), (10, .getfield 27, 13, 0, .null), (13, .iload_n 2, 14, 0, .null), (14, .baload, 15, 0, .null), (15, .ifCond .eq 6, 18, 21, .null), (18, .iinc 1 1, 21, 0, .int (1)), (21, .iinc 2 1, 24, 0, .int (1)), (24, .goto (-20), 27, 4, .null), (27, .iload_n 1, 28, 0, .null), (28, .ireturn, 29, 0, .null)]
theorem okX7_countTaken : okP cX7_countTaken RX7 tX7_countTaken = true := by decide +kernel
def tX7_hashCounts : List En := [(0, .lload_n 1, 1, 0, .null), (1, .lstore_n 3, 2, 0, .null), (2, .iconst 0, 3, 0, .int (0)), (3, .istore 5, 5, 0, .null), (5, .iload 5, 7, 0, .null), (7, .bipush 14, 9, 0, .int (14)), (9, .if_icmp .gt 23, 12, 32, .null), (12, .ldc2_w 295, 15, 0, .long (31)), (15, .lload_n 3, 16, 0, .null), (16, .lmul, 17, 0, .null), (17, .aload_n 0, 18, 0, .null), (18, .iload 5, 20, 0, .null), (20, .invokevirtual 339, 23, 0, .null), (23, .i2l, 24, 0, .null), (24, .ladd, 25, 0, .null), (25, .lstore_n 3, 26, 0, .null), (26, .iinc 5 1, 29, 0, .int (1)), (29, .goto (-24), 32, 5, .null), (32, .bipush 20, 34, 0, .int (20)), (34, .istore 5, 36, 0, .null), (36, .iload 5, 38, 0, .null), (38, .bipush 24, 40, 0, .int (24)), (40, .if_icmp .gt 23, 43, 63, .null), (43, .ldc2_w 295, 46, 0, .long (31)), (46, .lload_n 3, 47, 0, .null), (47, .lmul, 48, 0, .null), (48, .aload_n 0, 49, 0, .null), (49, .iload 5, 51, 0, .null), (51, .invokevirtual 339, 54, 0, .null), (54, .i2l, 55, 0, .null), (55, .ladd, 56, 0, .null), (56, .lstore_n 3, 57, 0, .null), (57, .iinc 5 1, 60, 0, .int (1)), (60, .goto (-24), 63, 36, .null), (63, .lload_n 3, 64, 0, .null), (64, .lreturn, 65, 0, .null)]
theorem okX7_hashCounts : okP cX7_hashCounts RX7 tX7_hashCounts = true := by decide +kernel
def tX7_hashMatrix : List En := [(0, .lload_n 1, 1, 0, .null), (1, .lstore_n 3, 2, 0, .null), (2, .iconst 0, 3, 0, .int (0)), (3, .istore 5, 5, 0, .null), (5, .iload 5, 7, 0, .null), (7, .aload_n 0, 8, 0, .null), (8, .getfield 10, 11, 0, .null), (11, .getfield 74, 14, 0, .null), (14, .if_icmp .ge 51, 17, 65, .null), (17, .iconst 0, 18, 0, .int (0)), (18, .istore 6, 20, 0, .null), (20, .iload 6, 22, 0, .null), (22, .aload_n 0, 23, 0, .null), (23, .getfield 10, 26, 0, .null), (26, .getfield 74, 29, 0, .null), (29, .if_icmp .ge 30, 32, 59, .null), (32, .ldc2_w 295, 35, 0, .long (31)), (35, .lload_n 3, 36, 0, .null), (36, .lmul, 37, 0, .null), (37, .aload_n 0, 38, 0, .null), (38, .getfield 10, 41, 0, .null), (41, .getfield 93, 44, 0, .null), (44, .iload 5, 46, 0, .null), (46, .aaload, 47, 0, .null), (47, .iload 6, 49, 0, .null), (49, .iaload, 50, 0, .null), (50, .i2l, 51, 0, .null), (51, .ladd, 52, 0, .null), (52, .lstore_n 3, 53, 0, .null), (53, .iinc 6 1, 56, 0, .int (1)), (56, .goto (-36), 59, 20, .null), (59, .iinc 5 1, 62, 0, .int (1)), (62, .goto (-57), 65, 5, .null), (65, .lload_n 3, 66, 0, .null), (66, .lreturn, 67, 0, .null)]
theorem okX7_hashMatrix : okP cX7_hashMatrix RX7 tX7_hashMatrix = true := by decide +kernel
def tX7_hashSlot : List En := [(0, .aload_n 0, 1, 0, .null), (1, .getfield 10, 4, 0, .null), (4, .getfield 104, 7, 0, .null), (7, .iload_n 3, 8, 0, .null), (8, .aaload, 9, 0, .null), (9, .astore 4, 11, 0, .null), (11, .lload_n 1, 12, 0, .null), (12, .lstore 5, 14, 0, .null), (14, .iconst 0, 15, 0, .int (0)), (15, .istore 7, 17, 0, .null), (17, .iload 7, 19, 0, .null), (19, .aload_n 0, 20, 0, .null), (20, .getfield 10, 23, 0, .null), (23, .invokevirtual 127, 26, 0, .null), (26, .if_icmp .ge 24, 29, 50, .null), (29, .ldc2_w 295, 32, 0, .long (31)), (32, .lload 5, 34, 0, .null), (34, .lmul, 35, 0, .null), (35, .aload 4, 37, 0, .null), (37, .iload 7, 39, 0, .null), (39, .iaload, 40, 0, .null), (40, .i2l, 41, 0, .null), (41, .ladd, 42, 0, .null), (42, .lstore 5, 44, 0, .null), (44, .iinc 7 1, 47, 0, .int (1)), (47, .goto (-30), 50, 17, .null), (50, .iconst 0, 51, 0, .int (0)), (51, .istore 7, 53, 0, .null), (53, .iload 7, 55, 0, .null), (55, .bipush 7, 57, 0, .int (7)), (57, .if_icmp .gt 26, 60, 83, .null), (60, .ldc2_w 295, 63, 0, .long (31)), (63, .lload 5, 65, 0, .null), (65, .lmul, 66, 0, .null), (66, .aload 4, 68, 0, .null), (68, .iload 7, 70, 0, .null), (70, .invokestatic 208, 73, 0, .null), (73, .i2l, 74, 0, .null), (74, .ladd, 75, 0, .null), (75, .lstore 5, 77, 0, .null), (77, .iinc 7 1, 80, 0, .int (1)), (80, .goto (-27), 83, 53, .null), (83, .aload_n 0, 84, 0, .null), (84, .iload_n 3, 85, 0, .null), (85, .invokevirtual 218, 88, 0, .null), (88, .istore 7, 90, 0, .null), (90, .ldc2_w 295, 93, 0, .long (31)), (93, .lload 5, 95, 0, .null), (95, .lmul, 96, 0, .null), (96, .iload 7, 98, 0, .null), (98, .i2l, 99, 0, .null), (99, .ladd, 100, 0, .null), (100, .lstore 5, 102, 0, .null), (102, .ldc2_w 295, 105, 0, .long (31)), (105, .lload 5, 107, 0, .null), (107, .lmul, 108, 0, .null), (108, .aload_n 0, 109, 0, .null), (109, .iload_n 3, 110, 0, .null), (110, .invokevirtual 222, 113, 0, .null), (113, .i2l, 114, 0, .null), (114, .ladd, 115, 0, .null), (115, .lstore 5, 117, 0, .null), (117, .aload_n 0, 118, 0, .null), (118, .lload 5, 120, 0, .null), (120, .aload 4, 122, 0, .null), (122, .invokevirtual 342, 125, 0, .null), (125, .lstore 5, 127, 0, .null), (127, .iload 7, 129, 0, .null), (129, .iconst 1, 130, 0, .int (1)), (130, .if_icmp .ne 13, 133, 143, .null), (133, .aload_n 0, 134, 0, .null), (134, .lload 5, 136, 0, .null), (136, .aload 4, 138, 0, .null), (138, .invokevirtual 346, 141, 0, .null), (141, .lstore 5, 143, 0, .null), (143, .ldc2_w 295, 146, 0, .long (31)), (146, .lload 5, 148, 0, .null), (148, .lmul, 149, 0, .null), (149, .aload_n 0, 150, 0, .null), (150, .iload_n 3, 151, 0, .null), (151, .iconst 0, 152, 0, .int (0)), (152, .invokevirtual 349, 155, 0, .null), (155, .ladd, 156, 0, .null), (156, .lstore 5, 158, 0, .null), (158, .ldc2_w 295, 161, 0, .long (31)), (161, .lload 5, 163, 0, .null), (163, .lmul, 164, 0, .null), (164, .aload_n 0, 165, 0, .null), (165, .iload_n 3, 166, 0, .null), (166, .iconst 1, 167, 0, .int (1)), (167, .invokevirtual 353, 170, 0, .null), (170, .i2l, 171, 0, .null), (171, .ladd, 172, 0, .null), (172, .lstore 5, 174, 0, .null), (174, .ldc2_w 295, 177, 0, .long (31)), (177, .lload 5, 179, 0, .null), (179, .lmul, 180, 0, .null), (180, .aload_n 0, 181, 0, .null), (181, .iload_n 3, 182, 0, .null), (182, .invokevirtual 356, 185, 0, .null), (185, .invokestatic 360, 188, 0, .null), (188, .i2l, 189, 0, .null), (189, .ladd, 190, 0, .null), (190, .lstore 5, 192, 0, .null), (192, .ldc2_w 295, 195, 0, .long (31)), (195, .lload 5, 197, 0, .null), (197, .lmul, 198, 0, .null), (198, .aload_n 0, 199, 0, .null), (199, .iload_n 3, 200, 0, .null), (200, .iconst 2, 201, 0, .int (2)), (201, .invokevirtual 366, 204, 0, .null), (204, .invokestatic 370, 207, 0, .null), (207, .ladd, 208, 0, .null), (208, .lreturn, 209, 0, .null)]
theorem okX7_hashSlot : okP cX7_hashSlot RX7 tX7_hashSlot = true := by decide +kernel
def tX7_hashAnnihilator : List En := [(0, .aload_n 0, 1, 0, .null), (1, .getfield 52, 4, 0, .null), (4, .aload_n 3, 5, 0, .null), (5, .aload_n 0, 6, 0, .null), (6, .getfield 10, 9, 0, .null), (9, .getfield 74, 12, 0, .null), (12, .invokevirtual 235, 15, 0, .null), (15, .istore 4, 17, 0, .null), (17, .ldc2_w 295, 20, 0, .long (31)), (20, .lload_n 1, 21, 0, .null), (21, .lmul, 22, 0, .null), (22, .iload 4, 24, 0, .null), (24, .i2l, 25, 0, .null), (25, .ladd, 26, 0, .null), (26, .lstore 5, 28, 0, .null), (28, .iconst 0, 29, 0, .int (0)), (29, .istore 7, 31, 0, .null), (31, .iload 7, 33, 0, .null), (33, .iload 4, 35, 0, .null), (35, .if_icmp .ge 51, 38, 86, .null), (38, .iconst 0, 39, 0, .int (0)), (39, .istore 8, 41, 0, .null), (41, .iload 8, 43, 0, .null), (43, .aload_n 0, 44, 0, .null), (44, .getfield 10, 47, 0, .null), (47, .getfield 74, 50, 0, .null), (50, .if_icmp .ge 30, 53, 80, .null), (53, .ldc2_w 295, 56, 0, .long (31)), (56, .lload 5, 58, 0, .null), (58, .lmul, 59, 0, .null), (59, .aload_n 0, 60, 0, .null), (60, .getfield 52, 63, 0, .null), (63, .iload 7, 65, 0, .null), (65, .iload 8, 67, 0, .null), (67, .invokevirtual 238, 70, 0, .null), (70, .i2l, 71, 0, .null), (71, .ladd, 72, 0, .null), (72, .lstore 5, 74, 0, .null), (74, .iinc 8 1, 77, 0, .int (1)), (77, .goto (-36), 80, 41, .null), (80, .iinc 7 1, 83, 0, .int (1)), (83, .goto (-52), 86, 31, .null), (86, .lload 5, 88, 0, .null), (88, .lreturn, 89, 0, .null)]
theorem okX7_hashAnnihilator : okP cX7_hashAnnihilator RX7 tX7_hashAnnihilator = true := by decide +kernel
def tX7_hashFactors : List En := [(0, .aload_n 3, 1, 0, .null), (1, .invokestatic 324, 4, 0, .null), (4, .istore 4, 6, 0, .null), (6, .lload_n 1, 7, 0, .null), (7, .lstore 5, 9, 0, .null), (9, .iconst 0, 10, 0, .int (0)), (10, .istore 7, 12, 0, .null), (12, .iload 7, 14, 0, .null), (14, .iload 4, 16, 0, .null), (16, .if_icmp .ge 48, 19, 64, .null), (19, .iconst 0, 20, 0, .int (0)), (20, .istore 8, 22, 0, .null), (22, .iload 8, 24, 0, .null), (24, .aload_n 0, 25, 0, .null), (25, .getfield 10, 28, 0, .null), (28, .getfield 74, 31, 0, .null), (31, .if_icmp .ge 27, 34, 58, .null), (34, .ldc2_w 295, 37, 0, .long (31)), (37, .lload 5, 39, 0, .null), (39, .lmul, 40, 0, .null), (40, .aload_n 3, 41, 0, .null), (41, .iload 7, 43, 0, .null), (43, .iload 8, 45, 0, .null), (45, .invokestatic 232, 48, 0, .null), (48, .i2l, 49, 0, .null), (49, .ladd, 50, 0, .null), (50, .lstore 5, 52, 0, .null), (52, .iinc 8 1, 55, 0, .int (1)), (55, .goto (-33), 58, 22, .null), (58, .iinc 7 1, 61, 0, .int (1)), (61, .goto (-49), 64, 12, .null), (64, .lload 5, 66, 0, .null), (66, .lreturn, 67, 0, .null)]
theorem okX7_hashFactors : okP cX7_hashFactors RX7 tX7_hashFactors = true := by decide +kernel
end
section
def tX8_init : List En := [(0, .aload_n 0, 1, 0, .null), (1, .invokespecial 1, 4, 0, .null), (4, .aload_n 0, 5, 0, .null), (5, .sipush 296, 8, 0, .int (296)), (8, .newarray .int, 10, 0, .null), (10, .putfield 7, 13, 0, .null), (13, .aload_n 0, 14, 0, .null), (14, .sipush 1776, 17, 0, .int (1776)), (17, .newarray .int, 19, 0, .null), (19, .putfield 13, 22, 0, .null), (22, .aload_n 0, 23, 0, .null), (23, .sipush 574, 26, 0, .int (574)), (26, .newarray .int, 28, 0, .null), (28, .putfield 16, 31, 0, .null), (31, .aload_n 0, 32, 0, .null), (32, .iconst 2, 33, 0, .int (2)), (33, .newarray .int, 35, 0, .null), (35, .putfield 19, 38, 0, .null), (38, .aload_n 0, 39, 0, .null), (39, .bipush 60, 41, 0, .int (60)), (41, .newarray .int, 43, 0, .null), (43, .putfield 22, 46, 0, .null), (46, .aload_n 0, 47, 0, .null), (47, .bipush 32, 49, 0, .int (32)), (49, .newarray .long, 51, 0, .null), (51, .putfield 25, 54, 0, .null), (54, .aload_n 0, 55, 0, .null), (55, .bipush 32, 57, 0, .int (32)), (57, .newarray .long, 59, 0, .null), (59, .putfield 29, 62, 0, .null), (62, .aload_n 0, 63, 0, .null), (63, .bipush 32, 65, 0, .int (32)), (65, .newarray .long, 67, 0, .null), (67, .putfield 32, 70, 0, .null), (70, .aload_n 0, 71, 0, .null), (71, .bipush 32, 73, 0, .int (32)), (73, .newarray .long, 75, 0, .null), (75, .putfield 35, 78, 0, .null), (78, .aload_n 0, 79, 0, .null), (79, .sipush 160, 82, 0, .int (160)), (82, .newarray .long, 84, 0, .null), (84, .putfield 38, 87, 0, .null), (87, .aload_n 0, 88, 0, .null), (88, .iconst 5, 89, 0, .int (5)), (89, .newarray .int, 91, 0, .null), (91, .putfield 41, 94, 0, .null), (94, .aload_n 0, 95, 0, .null), (95, .getfield 7, 98, 0, .null), (98, .iconst 0, 99, 0, .int (0)), (99, .iconst 4, 100, 0, .int (4)), (100, .iastore, 101, 0, .null), (101, .aload_n 0, 102, 0, .null), (102, .invokevirtual 44, 105, 0, .null), (105, .return_, 106, 0, .null)]
theorem okX8_init : okP cX8_init RX8 tX8_init = true := by decide +kernel
def tX8_thrown : List En := [(0, .aload_n 0, 1, 0, .null), (1, .getfield 47, 4, 0, .null), (4, .ireturn, 5, 0, .null)]
theorem okX8_thrown : okP cX8_thrown RX8 tX8_thrown = true := by decide +kernel
def tX8_fails : List En := [(0, .aload_n 0, 1, 0, .null), (1, .iload_n 1, 2, 0, .null), (2, .putfield 47, 5, 0, .null), (5, .iconst 0, 6, 0, .int (0)), (6, .ireturn, 7, 0, .null)]
theorem okX8_fails : okP cX8_fails RX8 tX8_fails = true := by decide +kernel
def tX8_in : List En := [(0, .iload_n 0, 1, 0, .null), (1, .iload_n 1, 2, 0, .null), (2, .if_icmp .lt 12, 5, 14, .null), (5, .iload_n 0, 6, 0, .null), (6, .iload_n 2, 7, 0, .null), (7, .if_icmp .gt 7, 10, 14, .null), (10, .iconst 1, 11, 0, .int (1)), (11, .goto 4, 14, 15, .null), (14, .iconst 0, 15, 0, .int (0)), (15, .ireturn, 16, 0, .null)]
theorem okX8_in : okP cX8_in RX8 tX8_in = true := by decide +kernel
def tX8_layPlain : List En := [(0, .iconst 0, 1, 0, .int (0)), (1, .istore_n 1, 2, 0, .null), (2, .iload_n 1, 3, 0, .null), (3, .iconst 5, 4, 0, .int (5)), (4, .if_icmp .ge 18, 7, 22, .null), (7, .aload_n 0, 8, 0, .null), (8, .getfield 7, 11, 0, .null), (11, .iconst 1, 12, 0, .int (1)), (12, .iload_n 1, 13, 0, .null), (13, .iadd, 14, 0, .null), (14, .iconst 1, 15, 0, .int (1)), (15, .iastore, 16, 0, .null), (16, .iinc 1 1, 19, 0, .int (1)), (19, .goto (-17), 22, 2, .null), (22, .iconst 0, 23, 0, .int (0)), (23, .istore_n 1, 24, 0, .null), (24, .iload_n 1, 25, 0, .null), (25, .bipush 25, 27, 0, .int (25)), (27, .if_icmp .ge 32, 30, 59, .null), (30, .aload_n 0, 31, 0, .null), (31, .getfield 7, 34, 0, .null), (34, .bipush 6, 36, 0, .int (6)), (36, .iload_n 1, 37, 0, .null), (37, .iadd, 38, 0, .null), (38, .iload_n 1, 39, 0, .null), (39, .iconst 5, 40, 0, .int (5)), (40, .idiv, 41, 0, .null), (41, .iload_n 1, 42, 0, .null), (42, .iconst 5, 43, 0, .int (5)), (43, .irem, 44, 0, .null), (44, .if_icmp .ne 7, 47, 51, .null), (47, .iconst 1, 48, 0, .int (1)), (48, .goto 4, 51, 52, .null), (51, .iconst 0, 52, 0, .int (0)), (52, .iastore, 53, 0, .null), (53, .iinc 1 1, 56, 0, .int (1)), (56, .goto (-32), 59, 24, .null), (59, .bipush 40, 61, 0, .int (40)), (61, .istore_n 1, 62, 0, .null), (62, .iload_n 1, 63, 0, .null), (63, .sipush 296, 66, 0, .int (296)), (66, .if_icmp .ge 16, 69, 82, .null), (69, .aload_n 0, 70, 0, .null), (70, .getfield 7, 73, 0, .null), (73, .iload_n 1, 74, 0, .null), (74, .iconst 0, 75, 0, .int (0)), (75, .iastore, 76, 0, .null), (76, .iinc 1 1, 79, 0, .int (1)), (79, .goto (-17), 82, 62, .null), (82, .return_, 83, 0, .null)]
theorem okX8_layPlain : okP cX8_layPlain RX8 tX8_layPlain = true := by decide +kernel
def tX8_save : List En := [(0, .aload_n 0, 1, 0, .null), (1, .getfield 51, 4, 0, .null), (4, .bipush 6, 6, 0, .int (6)), (6, .if_icmp .ne 44, 9, 50, .null), (9, .iconst 0, 10, 0, .int (0)), (10, .istore_n 1, 11, 0, .null), (11, .iload_n 1, 12, 0, .null), (12, .sipush 1480, 15, 0, .int (1480)), (15, .if_icmp .ge 25, 18, 40, .null), (18, .aload_n 0, 19, 0, .null), (19, .getfield 13, 22, 0, .null), (22, .iload_n 1, 23, 0, .null), (23, .aload_n 0, 24, 0, .null), (24, .getfield 13, 27, 0, .null), (27, .iload_n 1, 28, 0, .null), (28, .sipush 296, 31, 0, .int (296)), (31, .iadd, 32, 0, .null), (32, .iaload, 33, 0, .null), (33, .iastore, 34, 0, .null), (34, .iinc 1 1, 37, 0, .int (1)), (37, .goto (-26), 40, 11, .null), (40, .aload_n 0, 41, 0, .null), (41, .dup, 42, 0, .null), (42, .getfield 51, 45, 0, .null), (45, .iconst 1, 46, 0, .int (1)), (46, .isub, 47, 0, .null), (47, .putfield 51, 50, 0, .null), (50, .iconst 0, 51, 0, .int (0)), (51, .istore_n 1, 52, 0, .null), (52, .iload_n 1, 53, 0, .null), (53, .sipush 296, 56, 0, .int (296)), (56, .if_icmp .ge 30, 59, 86, .null), (59, .aload_n 0, 60, 0, .null), (60, .getfield 13, 63, 0, .null), (63, .sipush 296, 66, 0, .int (296)), (66, .aload_n 0, 67, 0, .null), (67, .getfield 51, 70, 0, .null), (70, .imul, 71, 0, .null), (71, .iload_n 1, 72, 0, .null), (72, .iadd, 73, 0, .null), (73, .aload_n 0, 74, 0, .null), (74, .getfield 7, 77, 0, .null), (77, .iload_n 1, 78, 0, .null), (78, .iaload, 79, 0, .null), (79, .iastore, 80, 0, .null), (80, .iinc 1 1, 83, 0, .int (1)), (83, .goto (-31), 86, 52, .null), (86, .aload_n 0, 87, 0, .null), (87, .dup, 88, 0, .null), (88, .getfield 51, 91, 0, .null), (91, .iconst 1, 92, 0, .int (1)), (92, .iadd, 93, 0, .null), (93, .putfield 51, 96, 0, .null), (96, .return_, 97, 0, .null)]
theorem okX8_save : okP cX8_save RX8 tX8_save = true := by decide +kernel
def tX8_blades : List En := [(0, .iconst 1, 1, 0, .int (1)), (1, .aload_n 0, 2, 0, .null), (2, .getfield 7, 5, 0, .null), (5, .iconst 0, 6, 0, .int (0)), (6, .iaload, 7, 0, .null), (7, .ishl, 8, 0, .null), (8, .ireturn, 9, 0, .null)]
theorem okX8_blades : okP cX8_blades RX8 tX8_blades = true := by decide +kernel
def tX8_isSlot : List En := [(0, .iload_n 0, 1, 0, .null), (1, .iconst 0, 2, 0, .int (0)), (2, .bipush 7, 4, 0, .int (7)), (4, .invokestatic 54, 7, 0, .null), (7, .ireturn, 8, 0, .null)]
theorem okX8_isSlot : okP cX8_isSlot RX8 tX8_isSlot = true := by decide +kernel
def tX8_isDirection : List En := [(0, .iload_n 1, 1, 0, .null), (1, .iconst 0, 2, 0, .int (0)), (2, .aload_n 0, 3, 0, .null), (3, .getfield 7, 6, 0, .null), (6, .iconst 0, 7, 0, .int (0)), (7, .iaload, 8, 0, .null), (8, .iconst 1, 9, 0, .int (1)), (9, .isub, 10, 0, .null), (10, .invokestatic 54, 13, 0, .null), (13, .ireturn, 14, 0, .null)]
theorem okX8_isDirection : okP cX8_isDirection RX8 tX8_isDirection = true := by decide +kernel
def tX8_isBlade : List En := [(0, .iload_n 1, 1, 0, .null), (1, .iconst 0, 2, 0, .int (0)), (2, .aload_n 0, 3, 0, .null), (3, .invokevirtual 58, 6, 0, .null), (6, .iconst 1, 7, 0, .int (1)), (7, .isub, 8, 0, .null), (8, .invokestatic 54, 11, 0, .null), (11, .ireturn, 12, 0, .null)]
theorem okX8_isBlade : okP cX8_isBlade RX8 tX8_isBlade = true := by decide +kernel
def tX8_at : List En := [(0, .aload_n 0, 1, 0, .null), (1, .getfield 7, 4, 0, .null), (4, .bipush 40, 6, 0, .int (40)), (6, .bipush 32, 8, 0, .int (32)), (8, .iload_n 1, 9, 0, .null), (9, .imul, 10, 0, .null), (10, .iadd, 11, 0, .null), (11, .iload_n 2, 12, 0, .null), (12, .iadd, 13, 0, .null), (13, .iaload, 14, 0, .null), (14, .ireturn, 15, 0, .null)]
theorem okX8_at : okP cX8_at RX8 tX8_at = true := by decide +kernel
def tX8_grade : List En := [(0, .iconst 0, 1, 0, .int (0)), (1, .istore_n 1, 2, 0, .null), (2, .iconst 0, 3, 0, .int (0)), (3, .istore_n 2, 4, 0, .null), (4, .iload_n 2, 5, 0, .null), (5, .iconst 5, 6, 0, .int (5)), (6, .if_icmp .ge 17, 9, 23, .null), (9, .iload_n 1, 10, 0, .null), (10, .iload_n 0, 11, 0, .null), (11, .iload_n 2, 12, 0, .null), (12, .ishr, 13, 0, .null), (13, .iconst 1, 14, 0, .int (1)), (14, .iand, 15, 0, .null), (15, .iadd, 16, 0, .null), (16, .istore_n 1, 17, 0, .null), (17, .iinc 2 1, 20, 0, .int (1)), (20, .goto (-16), 23, 4, .null), (23, .iload_n 1, 24, 0, .null), (24, .ireturn, 25, 0, .null)]
theorem okX8_grade : okP cX8_grade RX8 tX8_grade = true := by decide +kernel
def tX8_turns : List En := [(0, .iconst 0, 1, 0, .int (0)), (1, .istore_n 2, 2, 0, .null), (2, .iconst 0, 3, 0, .int (0)), (3, .istore_n 3, 4, 0, .null), (4, .iload_n 3, 5, 0, .null), (5, .iconst 5, 6, 0, .int (5)), (6, .if_icmp .ge 35, 9, 41, .null), (9, .iload_n 2, 10, 0, .null), (10, .iload_n 0, 11, 0, .null), (11, .iload_n 3, 12, 0, .null), (12, .ishr, 13, 0, .null), (13, .iconst 1, 14, 0, .int (1)), (14, .iand, 15, 0, .null), (15, .iconst 1, 16, 0, .int (1)), (16, .if_icmp .ne 16, 19, 32, .null), (19, .iload_n 1, 20, 0, .null), (20, .iconst 1, 21, 0, .int (1)), (21, .iload_n 3, 22, 0, .null), (22, .ishl, 23, 0, .null), (23, .iconst 1, 24, 0, .int (1)), (24, .isub, 25, 0, .null), (25, .iand, 26, 0, .null), (26, .invokestatic 62, 29, 0, .null), (29, .goto 4, 32, 33, .null), (32, .iconst 0, 33, 0, .int (0)), (33, .iadd, 34, 0, .null), (34, .istore_n 2, 35, 0, .null), (35, .iinc 3 1, 38, 0, .int (1)), (38, .goto (-34), 41, 4, .null), (41, .iload_n 2, 42, 0, .null), (42, .ireturn, 43, 0, .null)]
theorem okX8_turns : okP cX8_turns RX8 tX8_turns = true := by decide +kernel
def tX8_way : List En := [(0, .iload_n 0, 1, 0, .null), (1, .iload_n 1, 2, 0, .null), (2, .invokestatic 66, 5, 0, .null), (5, .iconst 2, 6, 0, .int (2)), (6, .irem, 7, 0, .null), (7, .ifCond .ne 7, 10, 14, .null), (10, .iconst 1, 11, 0, .int (1)), (11, .goto 4, 14, 15, .null), (14, .iconst (-1), 15, 0, .int (-1)), (15, .ireturn, 16, 0, .null)]
theorem okX8_way : okP cX8_way RX8 tX8_way = true := by decide +kernel
def tX8_signOf : List En := [(0, .iconst 1, 1, 0, .int (1)), (1, .istore_n 2, 2, 0, .null), (2, .iconst 0, 3, 0, .int (0)), (3, .istore_n 3, 4, 0, .null), (4, .iload_n 3, 5, 0, .null), (5, .aload_n 0, 6, 0, .null), (6, .getfield 7, 9, 0, .null), (9, .iconst 0, 10, 0, .int (0)), (10, .iaload, 11, 0, .null), (11, .if_icmp .ge 33, 14, 44, .null), (14, .iload_n 2, 15, 0, .null), (15, .iload_n 1, 16, 0, .null), (16, .iload_n 3, 17, 0, .null), (17, .ishr, 18, 0, .null), (18, .iconst 1, 19, 0, .int (1)), (19, .iand, 20, 0, .null), (20, .iconst 1, 21, 0, .int (1)), (21, .if_icmp .ne 14, 24, 35, .null), (24, .aload_n 0, 25, 0, .null), (25, .getfield 7, 28, 0, .null), (28, .iconst 1, 29, 0, .int (1)), (29, .iload_n 3, 30, 0, .null), (30, .iadd, 31, 0, .null), (31, .iaload, 32, 0, .null), (32, .goto 4, 35, 36, .null), (35, .iconst 1, 36, 0, .int (1)), (36, .imul, 37, 0, .null), (37, .istore_n 2, 38, 0, .null), (38, .iinc 3 1, 41, 0, .int (1)), (41, .goto (-37), 44, 4, .null), (44, .iload_n 2, 45, 0, .null), (45, .ireturn, 46, 0, .null)]
theorem okX8_signOf : okP cX8_signOf RX8 tX8_signOf = true := by decide +kernel
def tX8_begin : List En := [(0, .aload_n 0, 1, 0, .null), (1, .iconst 0, 2, 0, .int (0)), (2, .putfield 47, 5, 0, .null), (5, .iload_n 1, 6, 0, .null), (6, .iconst 2, 7, 0, .int (2)), (7, .iconst 5, 8, 0, .int (5)), (8, .invokestatic 54, 11, 0, .null), (11, .ifCond .ne 9, 14, 20, .null), (14, .aload_n 0, 15, 0, .null), (15, .iconst 1, 16, 0, .int (1)), (16, .invokevirtual 70, 19, 0, .null), (19, .ireturn, 20, 0, .null), (20, .aload_n 0, 21, 0, .null), (21, .invokevirtual 73, 24, 0, .null), (24, .aload_n 0, 25, 0, .null), (25, .getfield 7, 28, 0, .null), (28, .iconst 0, 29, 0, .int (0)), (29, .iaload, 30, 0, .null), (30, .istore_n 2, 31, 0, .null), (31, .aload_n 0, 32, 0, .null), (32, .getfield 7, 35, 0, .null), (35, .iconst 0, 36, 0, .int (0)), (36, .iload_n 1, 37, 0, .null), (37, .iastore, 38, 0, .null), (38, .aload_n 0, 39, 0, .null), (39, .invokevirtual 44, 42, 0, .null), (42, .iload_n 2, 43, 0, .null), (43, .ireturn, 44, 0, .null)]
theorem okX8_begin : okP cX8_begin RX8 tX8_begin = true := by decide +kernel
def tX8_sign : List En := [(0, .aload_n 0, 1, 0, .null), (1, .iconst 0, 2, 0, .int (0)), (2, .putfield 47, 5, 0, .null), (5, .aload_n 0, 6, 0, .null), (6, .iload_n 1, 7, 0, .null), (7, .invokevirtual 76, 10, 0, .null), (10, .ifCond .ne 9, 13, 19, .null), (13, .aload_n 0, 14, 0, .null), (14, .iconst 1, 15, 0, .int (1)), (15, .invokevirtual 70, 18, 0, .null), (18, .ireturn, 19, 0, .null), (19, .iload_n 2, 20, 0, .null), (20, .iconst 1, 21, 0, .int (1)), (21, .if_icmp .eq 14, 24, 35, .null), (24, .iload_n 2, 25, 0, .null), (25, .iconst (-1), 26, 0, .int (-1)), (26, .if_icmp .eq 9, 29, 35, .null), (29, .aload_n 0, 30, 0, .null), (30, .iconst 2, 31, 0, .int (2)), (31, .invokevirtual 70, 34, 0, .null), (34, .ireturn, 35, 0, .null), (35, .aload_n 0, 36, 0, .null), (36, .invokevirtual 73, 39, 0, .null), (39, .aload_n 0, 40, 0, .null), (40, .getfield 7, 43, 0, .null), (43, .iconst 1, 44, 0, .int (1)), (44, .iload_n 1, 45, 0, .null), (45, .iadd, 46, 0, .null), (46, .iaload, 47, 0, .null), (47, .istore_n 3, 48, 0, .null), (48, .aload_n 0, 49, 0, .null), (49, .getfield 7, 52, 0, .null), (52, .iconst 1, 53, 0, .int (1)), (53, .iload_n 1, 54, 0, .null), (54, .iadd, 55, 0, .null), (55, .iload_n 2, 56, 0, .null), (56, .iastore, 57, 0, .null), (57, .iload_n 3, 58, 0, .null), (58, .ireturn, 59, 0, .null)]
theorem okX8_sign : okP cX8_sign RX8 tX8_sign = true := by decide +kernel
def tX8_matrix : List En := [(0, .aload_n 0, 1, 0, .null), (1, .iconst 0, 2, 0, .int (0)), (2, .putfield 47, 5, 0, .null), (5, .aload_n 0, 6, 0, .null), (6, .iload_n 1, 7, 0, .null), (7, .invokevirtual 76, 10, 0, .null), (10, .ifCond .eq 11, 13, 21, .null), (13, .aload_n 0, 14, 0, .null), (14, .iload_n 2, 15, 0, .null), (15, .invokevirtual 76, 18, 0, .null), (18, .ifCond .ne 9, 21, 27, .null), (21, .aload_n 0, 22, 0, .null), (22, .iconst 1, 23, 0, .int (1)), (23, .invokevirtual 70, 26, 0, .null), (26, .ireturn, 27, 0, .null), (27, .iload_n 3, 28, 0, .null), (28, .bipush (-9), 30, 0, .int (-9)), (30, .bipush 9, 32, 0, .int (9)), (32, .invokestatic 54, 35, 0, .null), (35, .ifCond .ne 9, 38, 44, .null), (38, .aload_n 0, 39, 0, .null), (39, .iconst 2, 40, 0, .int (2)), (40, .invokevirtual 70, 43, 0, .null), (43, .ireturn, 44, 0, .null), (44, .aload_n 0, 45, 0, .null), (45, .invokevirtual 73, 48, 0, .null), (48, .bipush 6, 50, 0, .int (6)), (50, .iconst 5, 51, 0, .int (5)), (51, .iload_n 1, 52, 0, .null), (52, .imul, 53, 0, .null), (53, .iadd, 54, 0, .null), (54, .iload_n 2, 55, 0, .null), (55, .iadd, 56, 0, .null), (56, .istore 4, 58, 0, .null), (58, .aload_n 0, 59, 0, .null), (59, .getfield 7, 62, 0, .null), (62, .iload 4, 64, 0, .null), (64, .iaload, 65, 0, .null), (65, .istore 5, 67, 0, .null), (67, .aload_n 0, 68, 0, .null), (68, .getfield 7, 71, 0, .null), (71, .iload 4, 73, 0, .null), (73, .iload_n 3, 74, 0, .null), (74, .iastore, 75, 0, .null), (75, .iload 5, 77, 0, .null), (77, .ireturn, 78, 0, .null)]
theorem okX8_matrix : okP cX8_matrix RX8 tX8_matrix = true := by decide +kernel
def tX8_set : List En := [(0, .aload_n 0, 1, 0, .null), (1, .iconst 0, 2, 0, .int (0)), (2, .putfield 47, 5, 0, .null), (5, .iload_n 1, 6, 0, .null), (6, .invokestatic 80, 9, 0, .null), (9, .ifCond .eq 11, 12, 20, .null), (12, .aload_n 0, 13, 0, .null), (13, .iload_n 2, 14, 0, .null), (14, .invokevirtual 83, 17, 0, .null), (17, .ifCond .ne 9, 20, 26, .null), (20, .aload_n 0, 21, 0, .null), (21, .iconst 1, 22, 0, .int (1)), (22, .invokevirtual 70, 25, 0, .null), (25, .ireturn, 26, 0, .null), (26, .iload_n 3, 27, 0, .null), (27, .ldc 86, 29, 0, .int (-100000000)), (29, .ldc 87, 31, 0, .int (100000000)), (31, .invokestatic 54, 34, 0, .null), (34, .ifCond .ne 9, 37, 43, .null), (37, .aload_n 0, 38, 0, .null), (38, .iconst 2, 39, 0, .int (2)), (39, .invokevirtual 70, 42, 0, .null), (42, .ireturn, 43, 0, .null), (43, .aload_n 0, 44, 0, .null), (44, .invokevirtual 73, 47, 0, .null), (47, .aload_n 0, 48, 0, .null), (48, .iload_n 1, 49, 0, .null), (49, .iload_n 2, 50, 0, .null), (50, .invokevirtual 88, 53, 0, .null), (53, .istore 4, 55, 0, .null), (55, .aload_n 0, 56, 0, .null), (56, .getfield 7, 59, 0, .null), (59, .bipush 40, 61, 0, .int (40)), (61, .bipush 32, 63, 0, .int (32)), (63, .iload_n 1, 64, 0, .null), (64, .imul, 65, 0, .null), (65, .iadd, 66, 0, .null), (66, .iload_n 2, 67, 0, .null), (67, .iadd, 68, 0, .null), (68, .iload_n 3, 69, 0, .null), (69, .iastore, 70, 0, .null), (70, .iload 4, 72, 0, .null), (72, .ireturn, 73, 0, .null)]
theorem okX8_set : okP cX8_set RX8 tX8_set = true := by decide +kernel
def tX8_laySlots : List En := [(0, .iconst 0, 1, 0, .int (0)), (1, .istore_n 3, 2, 0, .null), (2, .iload_n 3, 3, 0, .null), (3, .bipush 32, 5, 0, .int (32)), (5, .if_icmp .ge 66, 8, 71, .null), (8, .aload_n 0, 9, 0, .null), (9, .getfield 25, 12, 0, .null), (12, .iload_n 3, 13, 0, .null), (13, .iload_n 3, 14, 0, .null), (14, .aload_n 0, 15, 0, .null), (15, .invokevirtual 58, 18, 0, .null), (18, .if_icmp .ge 13, 21, 31, .null), (21, .aload_n 0, 22, 0, .null), (22, .iload_n 1, 23, 0, .null), (23, .iload_n 3, 24, 0, .null), (24, .invokevirtual 88, 27, 0, .null), (27, .i2l, 28, 0, .null), (28, .goto 4, 31, 32, .null), (31, .lconst 0, 32, 0, .long 0), (32, .lastore, 33, 0, .null), (33, .aload_n 0, 34, 0, .null), (34, .getfield 29, 37, 0, .null), (37, .iload_n 3, 38, 0, .null), (38, .iload_n 3, 39, 0, .null), (39, .aload_n 0, 40, 0, .null), (40, .invokevirtual 58, 43, 0, .null), (43, .if_icmp .ge 13, 46, 56, .null), (46, .aload_n 0, 47, 0, .null), (47, .iload_n 2, 48, 0, .null), (48, .iload_n 3, 49, 0, .null), (49, .invokevirtual 88, 52, 0, .null), (52, .i2l, 53, 0, .null), (53, .goto 4, 56, 57, .null), (56, .lconst 0, 57, 0, .long 0), (57, .lastore, 58, 0, .null), (58, .aload_n 0, 59, 0, .null), (59, .getfield 32, 62, 0, .null), (62, .iload_n 3, 63, 0, .null), (63, .lconst 0, 64, 0, .long 0), (64, .lastore, 65, 0, .null), (65, .iinc 3 1, 68, 0, .int (1)), (68, .goto (-66), 71, 2, .null), (71, .return_, 72, 0, .null)]
theorem okX8_laySlots : okP cX8_laySlots RX8 tX8_laySlots = true := by decide +kernel
def tX8_layWedge : List En := [(0, .iconst 0, 1, 0, .int (0)), (1, .istore_n 1, 2, 0, .null), (2, .iload_n 1, 3, 0, .null), (3, .aload_n 0, 4, 0, .null), (4, .invokevirtual 58, 7, 0, .null), (7, .if_icmp .ge 80, 10, 87, .null), (10, .lconst 0, 11, 0, .long 0), (11, .lstore_n 2, 12, 0, .null), (12, .iconst 0, 13, 0, .int (0)), (13, .istore 4, 15, 0, .null), (15, .iload 4, 17, 0, .null), (17, .aload_n 0, 18, 0, .null), (18, .invokevirtual 58, 21, 0, .null), (21, .if_icmp .ge 53, 24, 74, .null), (24, .iload 4, 26, 0, .null), (26, .iload_n 1, 27, 0, .null), (27, .iconst (-1), 28, 0, .int (-1)), (28, .ixor, 29, 0, .null), (29, .iand, 30, 0, .null), (30, .ifCond .ne 38, 33, 68, .null), (33, .lload_n 2, 34, 0, .null), (34, .aload_n 0, 35, 0, .null), (35, .getfield 25, 38, 0, .null), (38, .iload 4, 40, 0, .null), (40, .laload, 41, 0, .null), (41, .aload_n 0, 42, 0, .null), (42, .getfield 29, 45, 0, .null), (45, .iload_n 1, 46, 0, .null), (46, .iload 4, 48, 0, .null), (48, .iconst (-1), 49, 0, .int (-1)), (49, .ixor, 50, 0, .null), (50, .iand, 51, 0, .null), (51, .laload, 52, 0, .null), (52, .lmul, 53, 0, .null), (53, .iload 4, 55, 0, .null), (55, .iload_n 1, 56, 0, .null), (56, .iload 4, 58, 0, .null), (58, .iconst (-1), 59, 0, .int (-1)), (59, .ixor, 60, 0, .null), (60, .iand, 61, 0, .null), (61, .invokestatic 91, 64, 0, .null), (64, .i2l, 65, 0, .null), (65, .lmul, 66, 0, .null), (66, .ladd, 67, 0, .null), (67, .lstore_n 2, 68, 0, .null), (68, .iinc 4 1, 71, 0, .int (1)), (71, .goto (-56), 74, 15, .null), (74, .aload_n 0, 75, 0, .null), (75, .getfield 32, 78, 0, .null), (78, .iload_n 1, 79, 0, .null), (79, .lload_n 2, 80, 0, .null), (80, .lastore, 81, 0, .null), (81, .iinc 1 1, 84, 0, .int (1)), (84, .goto (-82), 87, 2, .null), (87, .return_, 88, 0, .null)]
theorem okX8_layWedge : okP cX8_layWedge RX8 tX8_layWedge = true := by decide +kernel
def tX8_layContraction : List En := [(0, .iconst 0, 1, 0, .int (0)), (1, .istore_n 1, 2, 0, .null), (2, .iload_n 1, 3, 0, .null), (3, .aload_n 0, 4, 0, .null), (4, .invokevirtual 58, 7, 0, .null), (7, .if_icmp .ge 79, 10, 86, .null), (10, .lconst 0, 11, 0, .long 0), (11, .lstore_n 2, 12, 0, .null), (12, .iconst 0, 13, 0, .int (0)), (13, .istore 4, 15, 0, .null), (15, .iload 4, 17, 0, .null), (17, .aload_n 0, 18, 0, .null), (18, .invokevirtual 58, 21, 0, .null), (21, .if_icmp .ge 52, 24, 73, .null), (24, .iload 4, 26, 0, .null), (26, .iload_n 1, 27, 0, .null), (27, .iand, 28, 0, .null), (28, .ifCond .ne 39, 31, 67, .null), (31, .lload_n 2, 32, 0, .null), (32, .aload_n 0, 33, 0, .null), (33, .getfield 25, 36, 0, .null), (36, .iload 4, 38, 0, .null), (38, .laload, 39, 0, .null), (39, .aload_n 0, 40, 0, .null), (40, .getfield 29, 43, 0, .null), (43, .iload 4, 45, 0, .null), (45, .iload_n 1, 46, 0, .null), (46, .ior, 47, 0, .null), (47, .laload, 48, 0, .null), (48, .lmul, 49, 0, .null), (49, .aload_n 0, 50, 0, .null), (50, .iload 4, 52, 0, .null), (52, .invokevirtual 94, 55, 0, .null), (55, .i2l, 56, 0, .null), (56, .lmul, 57, 0, .null), (57, .iload 4, 59, 0, .null), (59, .iload_n 1, 60, 0, .null), (60, .invokestatic 91, 63, 0, .null), (63, .i2l, 64, 0, .null), (64, .lmul, 65, 0, .null), (65, .ladd, 66, 0, .null), (66, .lstore_n 2, 67, 0, .null), (67, .iinc 4 1, 70, 0, .int (1)), (70, .goto (-55), 73, 15, .null), (73, .aload_n 0, 74, 0, .null), (74, .getfield 32, 77, 0, .null), (77, .iload_n 1, 78, 0, .null), (78, .lload_n 2, 79, 0, .null), (79, .lastore, 80, 0, .null), (80, .iinc 1 1, 83, 0, .int (1)), (83, .goto (-81), 86, 2, .null), (86, .return_, 87, 0, .null)]
theorem okX8_layContraction : okP cX8_layContraction RX8 tX8_layContraction = true := by decide +kernel
def tX8_growBy : List En := [(0, .iconst 0, 1, 0, .int (0)), (1, .istore_n 2, 2, 0, .null), (2, .iload_n 2, 3, 0, .null), (3, .aload_n 0, 4, 0, .null), (4, .invokevirtual 58, 7, 0, .null), (7, .if_icmp .ge 95, 10, 102, .null), (10, .lconst 0, 11, 0, .long 0), (11, .lstore_n 3, 12, 0, .null), (12, .iconst 0, 13, 0, .int (0)), (13, .istore 5, 15, 0, .null), (15, .iload 5, 17, 0, .null), (17, .aload_n 0, 18, 0, .null), (18, .getfield 7, 21, 0, .null), (21, .iconst 0, 22, 0, .int (0)), (22, .iaload, 23, 0, .null), (23, .if_icmp .ge 66, 26, 89, .null), (26, .iload_n 2, 27, 0, .null), (27, .iload 5, 29, 0, .null), (29, .ishr, 30, 0, .null), (30, .iconst 1, 31, 0, .int (1)), (31, .iand, 32, 0, .null), (32, .iconst 1, 33, 0, .int (1)), (33, .if_icmp .ne 50, 36, 83, .null), (36, .iload_n 2, 37, 0, .null), (37, .iconst 1, 38, 0, .int (1)), (38, .iload 5, 40, 0, .null), (40, .ishl, 41, 0, .null), (41, .iconst (-1), 42, 0, .int (-1)), (42, .ixor, 43, 0, .null), (43, .iand, 44, 0, .null), (44, .istore 6, 46, 0, .null), (46, .lload_n 3, 47, 0, .null), (47, .aload_n 0, 48, 0, .null), (48, .getfield 35, 51, 0, .null), (51, .iload 6, 53, 0, .null), (53, .laload, 54, 0, .null), (54, .aload_n 0, 55, 0, .null), (55, .getfield 7, 58, 0, .null), (58, .bipush 6, 60, 0, .int (6)), (60, .iconst 5, 61, 0, .int (5)), (61, .iload 5, 63, 0, .null), (63, .imul, 64, 0, .null), (64, .iadd, 65, 0, .null), (65, .iload_n 1, 66, 0, .null), (66, .iadd, 67, 0, .null), (67, .iaload, 68, 0, .null), (68, .i2l, 69, 0, .null), (69, .lmul, 70, 0, .null), (70, .iload 6, 72, 0, .null), (72, .iconst 1, 73, 0, .int (1)), (73, .iload 5, 75, 0, .null), (75, .ishl, 76, 0, .null), (76, .invokestatic 91, 79, 0, .null), (79, .i2l, 80, 0, .null), (80, .lmul, 81, 0, .null), (81, .ladd, 82, 0, .null), (82, .lstore_n 3, 83, 0, .null), (83, .iinc 5 1, 86, 0, .int (1)), (86, .goto (-71), 89, 15, .null), (89, .aload_n 0, 90, 0, .null), (90, .getfield 29, 93, 0, .null), (93, .iload_n 2, 94, 0, .null), (94, .lload_n 3, 95, 0, .null), (95, .lastore, 96, 0, .null), (96, .iinc 2 1, 99, 0, .int (1)), (99, .goto (-97), 102, 2, .null), (102, .iconst 0, 103, 0, .int (0)), (103, .istore_n 2, 104, 0, .null), (104, .iload_n 2, 105, 0, .null), (105, .aload_n 0, 106, 0, .null), (106, .invokevirtual 58, 109, 0, .null), (109, .if_icmp .ge 21, 112, 130, .null), (112, .aload_n 0, 113, 0, .null), (113, .getfield 35, 116, 0, .null), (116, .iload_n 2, 117, 0, .null), (117, .aload_n 0, 118, 0, .null), (118, .getfield 29, 121, 0, .null), (121, .iload_n 2, 122, 0, .null), (122, .laload, 123, 0, .null), (123, .lastore, 124, 0, .null), (124, .iinc 2 1, 127, 0, .int (1)), (127, .goto (-23), 130, 104, .null), (130, .return_, 131, 0, .null)]
theorem okX8_growBy : okP cX8_growBy RX8 tX8_growBy = true := by decide +kernel
def tX8_layGrown : List En := [(0, .iconst 0, 1, 0, .int (0)), (1, .istore_n 2, 2, 0, .null), (2, .iload_n 2, 3, 0, .null), (3, .bipush 32, 5, 0, .int (32)), (5, .if_icmp .ge 24, 8, 29, .null), (8, .aload_n 0, 9, 0, .null), (9, .getfield 35, 12, 0, .null), (12, .iload_n 2, 13, 0, .null), (13, .iload_n 2, 14, 0, .null), (14, .ifCond .ne 7, 17, 21, .null), (17, .lconst 1, 18, 0, .long 1), (18, .goto 4, 21, 22, .null), (21, .lconst 0, 22, 0, .long 0), (22, .lastore, 23, 0, .null), (23, .iinc 2 1, 26, 0, .int (1)), (26, .goto (-24), 29, 2, .null), (29, .iconst 0, 30, 0, .int (0)), (30, .istore_n 2, 31, 0, .null), (31, .iload_n 2, 32, 0, .null), (32, .aload_n 0, 33, 0, .null), (33, .getfield 7, 36, 0, .null), (36, .iconst 0, 37, 0, .int (0)), (37, .iaload, 38, 0, .null), (38, .if_icmp .ge 23, 41, 61, .null), (41, .iload_n 1, 42, 0, .null), (42, .iload_n 2, 43, 0, .null), (43, .ishr, 44, 0, .null), (44, .iconst 1, 45, 0, .int (1)), (45, .iand, 46, 0, .null), (46, .iconst 1, 47, 0, .int (1)), (47, .if_icmp .ne 8, 50, 55, .null), (50, .aload_n 0, 51, 0, .null), (51, .iload_n 2, 52, 0, .null), (52, .invokevirtual 97, 55, 0, .null), (55, .iinc 2 1, 58, 0, .int (1)), (58, .goto (-27), 61, 31, .null), (61, .return_, 62, 0, .null)]
theorem okX8_layGrown : okP cX8_layGrown RX8 tX8_layGrown = true := by decide +kernel
def tX8_layPush : List En := [(0, .iconst 0, 1, 0, .int (0)), (1, .istore_n 1, 2, 0, .null), (2, .iload_n 1, 3, 0, .null), (3, .aload_n 0, 4, 0, .null), (4, .invokevirtual 58, 7, 0, .null), (7, .if_icmp .ge 63, 10, 70, .null), (10, .aload_n 0, 11, 0, .null), (11, .getfield 25, 14, 0, .null), (14, .iload_n 1, 15, 0, .null), (15, .laload, 16, 0, .null), (16, .lconst 0, 17, 0, .long 0), (17, .lcmp, 18, 0, .null), (18, .ifCond .eq 46, 21, 64, .null), (21, .aload_n 0, 22, 0, .null), (22, .iload_n 1, 23, 0, .null), (23, .invokevirtual 101, 26, 0, .null), (26, .iconst 0, 27, 0, .int (0)), (27, .istore_n 2, 28, 0, .null), (28, .iload_n 2, 29, 0, .null), (29, .aload_n 0, 30, 0, .null), (30, .invokevirtual 58, 33, 0, .null), (33, .if_icmp .ge 31, 36, 64, .null), (36, .aload_n 0, 37, 0, .null), (37, .getfield 32, 40, 0, .null), (40, .iload_n 2, 41, 0, .null), (41, .dup2, 42, 0, .null), (42, .laload, 43, 0, .null), (43, .aload_n 0, 44, 0, .null), (44, .getfield 25, 47, 0, .null), (47, .iload_n 1, 48, 0, .null), (48, .laload, 49, 0, .null), (49, .aload_n 0, 50, 0, .null), (50, .getfield 35, 53, 0, .null), (53, .iload_n 2, 54, 0, .null), (54, .laload, 55, 0, .null), (55, .lmul, 56, 0, .null), (56, .ladd, 57, 0, .null), (57, .lastore, 58, 0, .null), (58, .iinc 2 1, 61, 0, .int (1)), (61, .goto (-33), 64, 28, .null), (64, .iinc 1 1, 67, 0, .int (1)), (67, .goto (-65), 70, 2, .null), (70, .return_, 71, 0, .null)]
theorem okX8_layPush : okP cX8_layPush RX8 tX8_layPush = true := by decide +kernel
def tX8_layBy : List En := [(0, .aload_n 0, 1, 0, .null), (1, .iload_n 2, 2, 0, .null), (2, .iload_n 3, 3, 0, .null), (3, .invokevirtual 104, 6, 0, .null), (6, .iload_n 1, 7, 0, .null), (7, .ifCond .ne 46, 10, 53, .null), (10, .iconst 0, 11, 0, .int (0)), (11, .istore 4, 13, 0, .null), (13, .iload 4, 15, 0, .null), (15, .aload_n 0, 16, 0, .null), (16, .invokevirtual 58, 19, 0, .null), (19, .if_icmp .ge 31, 22, 50, .null), (22, .aload_n 0, 23, 0, .null), (23, .getfield 32, 26, 0, .null), (26, .iload 4, 28, 0, .null), (28, .aload_n 0, 29, 0, .null), (29, .getfield 25, 32, 0, .null), (32, .iload 4, 34, 0, .null), (34, .laload, 35, 0, .null), (35, .aload_n 0, 36, 0, .null), (36, .getfield 29, 39, 0, .null), (39, .iload 4, 41, 0, .null), (41, .laload, 42, 0, .null), (42, .ladd, 43, 0, .null), (43, .lastore, 44, 0, .null), (44, .iinc 4 1, 47, 0, .int (1)), (47, .goto (-34), 50, 13, .null), (50, .goto 31, 53, 81, .null), (53, .iload_n 1, 54, 0, .null), (54, .iconst 1, 55, 0, .int (1)), (55, .if_icmp .ne 10, 58, 65, .null), (58, .aload_n 0, 59, 0, .null), (59, .invokevirtual 108, 62, 0, .null), (62, .goto 19, 65, 81, .null), (65, .iload_n 1, 66, 0, .null), (66, .iconst 2, 67, 0, .int (2)), (67, .if_icmp .ne 10, 70, 77, .null), (70, .aload_n 0, 71, 0, .null), (71, .invokevirtual 111, 74, 0, .null), (74, .goto 7, 77, 81, .null), (77, .aload_n 0, 78, 0, .null), (78, .invokevirtual 114, 81, 0, .null), (81, .return_, 82, 0, .null)]
theorem okX8_layBy : okP cX8_layBy RX8 tX8_layBy = true := by decide +kernel
def tX8_beyond : List En := [(0, .iconst 0, 1, 0, .int (0)), (1, .istore_n 1, 2, 0, .null), (2, .iload_n 1, 3, 0, .null), (3, .aload_n 0, 4, 0, .null), (4, .invokevirtual 58, 7, 0, .null), (7, .if_icmp .ge 37, 10, 44, .null), (10, .aload_n 0, 11, 0, .null), (11, .getfield 32, 14, 0, .null), (14, .iload_n 1, 15, 0, .null), (15, .laload, 16, 0, .null), (16, .ldc2_w 117, 19, 0, .long (-100000000)), (19, .lcmp, 20, 0, .null), (20, .ifCond .lt 16, 23, 36, .null), (23, .aload_n 0, 24, 0, .null), (24, .getfield 32, 27, 0, .null), (27, .iload_n 1, 28, 0, .null), (28, .laload, 29, 0, .null), (29, .ldc2_w 119, 32, 0, .long (100000000)), (32, .lcmp, 33, 0, .null), (33, .ifCond .le 5, 36, 38, .null), (36, .iload_n 1, 37, 0, .null), (37, .ireturn, 38, 0, .null), (38, .iinc 1 1, 41, 0, .int (1)), (41, .goto (-39), 44, 2, .null), (44, .ldc 121, 46, 0, .int (-1000000000)), (46, .ireturn, 47, 0, .null)]
theorem okX8_beyond : okP cX8_beyond RX8 tX8_beyond = true := by decide +kernel
def tX8_many : List En := [(0, .iconst 0, 1, 0, .int (0)), (1, .istore_n 2, 2, 0, .null), (2, .iconst 0, 3, 0, .int (0)), (3, .istore_n 3, 4, 0, .null), (4, .iload_n 3, 5, 0, .null), (5, .aload_n 0, 6, 0, .null), (6, .invokevirtual 58, 9, 0, .null), (9, .if_icmp .ge 26, 12, 35, .null), (12, .iload_n 2, 13, 0, .null), (13, .aload_n 0, 14, 0, .null), (14, .iload_n 1, 15, 0, .null), (15, .iload_n 3, 16, 0, .null), (16, .invokevirtual 88, 19, 0, .null), (19, .ifCond .ne 7, 22, 26, .null), (22, .iconst 0, 23, 0, .int (0)), (23, .goto 4, 26, 27, .null), (26, .iconst 1, 27, 0, .int (1)), (27, .iadd, 28, 0, .null), (28, .istore_n 2, 29, 0, .null), (29, .iinc 3 1, 32, 0, .int (1)), (32, .goto (-28), 35, 4, .null), (35, .iload_n 2, 36, 0, .null), (36, .ireturn, 37, 0, .null)]
theorem okX8_many : okP cX8_many RX8 tX8_many = true := by decide +kernel
def tX8_keep : List En := [(0, .aload_n 0, 1, 0, .null), (1, .invokevirtual 73, 4, 0, .null), (4, .iconst 0, 5, 0, .int (0)), (5, .istore_n 3, 6, 0, .null), (6, .iload_n 3, 7, 0, .null), (7, .aload_n 0, 8, 0, .null), (8, .invokevirtual 58, 11, 0, .null), (11, .if_icmp .ge 30, 14, 41, .null), (14, .aload_n 0, 15, 0, .null), (15, .getfield 7, 18, 0, .null), (18, .bipush 40, 20, 0, .int (40)), (20, .bipush 32, 22, 0, .int (32)), (22, .iload_n 1, 23, 0, .null), (23, .imul, 24, 0, .null), (24, .iadd, 25, 0, .null), (25, .iload_n 3, 26, 0, .null), (26, .iadd, 27, 0, .null), (27, .aload_n 0, 28, 0, .null), (28, .getfield 32, 31, 0, .null), (31, .iload_n 3, 32, 0, .null), (32, .laload, 33, 0, .null), (33, .l2i, 34, 0, .null), (34, .iastore, 35, 0, .null), (35, .iinc 3 1, 38, 0, .int (1)), (38, .goto (-32), 41, 6, .null), (41, .aload_n 0, 42, 0, .null), (42, .getfield 7, 45, 0, .null), (45, .bipush 31, 47, 0, .int (31)), (47, .iload_n 2, 48, 0, .null), (48, .iadd, 49, 0, .null), (49, .dup2, 50, 0, .null), (50, .iaload, 51, 0, .null), (51, .iconst 1, 52, 0, .int (1)), (52, .iadd, 53, 0, .null), (53, .iastore, 54, 0, .null), (54, .aload_n 0, 55, 0, .null), (55, .iload_n 1, 56, 0, .null), (56, .invokevirtual 122, 59, 0, .null), (59, .istore_n 3, 60, 0, .null), (60, .aload_n 0, 61, 0, .null), (61, .getfield 7, 64, 0, .null), (64, .bipush 39, 66, 0, .int (39)), (66, .dup2, 67, 0, .null), (67, .iaload, 68, 0, .null), (68, .iload_n 3, 69, 0, .null), (69, .ifCond .ne 7, 72, 76, .null), (72, .iconst 1, 73, 0, .int (1)), (73, .goto 4, 76, 77, .null), (76, .iconst 0, 77, 0, .int (0)), (77, .iadd, 78, 0, .null), (78, .iastore, 79, 0, .null), (79, .iload_n 3, 80, 0, .null), (80, .ireturn, 81, 0, .null)]
theorem okX8_keep : okP cX8_keep RX8 tX8_keep = true := by decide +kernel
def tX8_keepOr : List En := [(0, .aload_n 0, 1, 0, .null), (1, .invokevirtual 125, 4, 0, .null), (4, .ldc 121, 6, 0, .int (-1000000000)), (6, .if_icmp .ne 12, 9, 18, .null), (9, .aload_n 0, 10, 0, .null), (10, .iload_n 1, 11, 0, .null), (11, .iload_n 2, 12, 0, .null), (12, .invokevirtual 128, 15, 0, .null), (15, .goto 8, 18, 23, .null), (18, .aload_n 0, 19, 0, .null), (19, .iload_n 3, 20, 0, .null), (20, .invokevirtual 70, 23, 0, .null), (23, .ireturn, 24, 0, .null)]
theorem okX8_keepOr : okP cX8_keepOr RX8 tX8_keepOr = true := by decide +kernel
def tX8_sum : List En := [(0, .aload_n 0, 1, 0, .null), (1, .iconst 0, 2, 0, .int (0)), (2, .putfield 47, 5, 0, .null), (5, .iload_n 1, 6, 0, .null), (6, .invokestatic 80, 9, 0, .null), (9, .ifCond .eq 17, 12, 26, .null), (12, .iload_n 2, 13, 0, .null), (13, .invokestatic 80, 16, 0, .null), (16, .ifCond .eq 10, 19, 26, .null), (19, .iload_n 3, 20, 0, .null), (20, .invokestatic 80, 23, 0, .null), (23, .ifCond .ne 9, 26, 32, .null), (26, .aload_n 0, 27, 0, .null), (27, .iconst 1, 28, 0, .int (1)), (28, .invokevirtual 70, 31, 0, .null), (31, .ireturn, 32, 0, .null), (32, .aload_n 0, 33, 0, .null), (33, .iconst 0, 34, 0, .int (0)), (34, .iload_n 1, 35, 0, .null), (35, .iload_n 2, 36, 0, .null), (36, .invokevirtual 131, 39, 0, .null), (39, .aload_n 0, 40, 0, .null), (40, .iload_n 3, 41, 0, .null), (41, .iconst 0, 42, 0, .int (0)), (42, .iconst 2, 43, 0, .int (2)), (43, .invokevirtual 135, 46, 0, .null), (46, .ireturn, 47, 0, .null)]
theorem okX8_sum : okP cX8_sum RX8 tX8_sum = true := by decide +kernel
def tX8_scale : List En := [(0, .aload_n 0, 1, 0, .null), (1, .iconst 0, 2, 0, .int (0)), (2, .putfield 47, 5, 0, .null), (5, .iload_n 1, 6, 0, .null), (6, .invokestatic 80, 9, 0, .null), (9, .ifCond .eq 10, 12, 19, .null), (12, .iload_n 3, 13, 0, .null), (13, .invokestatic 80, 16, 0, .null), (16, .ifCond .ne 9, 19, 25, .null), (19, .aload_n 0, 20, 0, .null), (20, .iconst 1, 21, 0, .int (1)), (21, .invokevirtual 70, 24, 0, .null), (24, .ireturn, 25, 0, .null), (25, .iload_n 2, 26, 0, .null), (26, .sipush (-1000), 29, 0, .int (-1000)), (29, .sipush 1000, 32, 0, .int (1000)), (32, .invokestatic 54, 35, 0, .null), (35, .ifCond .ne 9, 38, 44, .null), (38, .aload_n 0, 39, 0, .null), (39, .iconst 2, 40, 0, .int (2)), (40, .invokevirtual 70, 43, 0, .null), (43, .ireturn, 44, 0, .null), (44, .aload_n 0, 45, 0, .null), (45, .iload_n 1, 46, 0, .null), (46, .iload_n 1, 47, 0, .null), (47, .invokevirtual 104, 50, 0, .null), (50, .iconst 0, 51, 0, .int (0)), (51, .istore 4, 53, 0, .null), (53, .iload 4, 55, 0, .null), (55, .aload_n 0, 56, 0, .null), (56, .invokevirtual 58, 59, 0, .null), (59, .if_icmp .ge 26, 62, 85, .null), (62, .aload_n 0, 63, 0, .null), (63, .getfield 32, 66, 0, .null), (66, .iload 4, 68, 0, .null), (68, .aload_n 0, 69, 0, .null), (69, .getfield 25, 72, 0, .null), (72, .iload 4, 74, 0, .null), (74, .laload, 75, 0, .null), (75, .iload_n 2, 76, 0, .null), (76, .i2l, 77, 0, .null), (77, .lmul, 78, 0, .null), (78, .lastore, 79, 0, .null), (79, .iinc 4 1, 82, 0, .int (1)), (82, .goto (-29), 85, 53, .null), (85, .aload_n 0, 86, 0, .null), (86, .iload_n 3, 87, 0, .null), (87, .iconst 1, 88, 0, .int (1)), (88, .iconst 3, 89, 0, .int (3)), (89, .invokevirtual 135, 92, 0, .null), (92, .ireturn, 93, 0, .null)]
theorem okX8_scale : okP cX8_scale RX8 tX8_scale = true := by decide +kernel
def tX8_wedge : List En := [(0, .aload_n 0, 1, 0, .null), (1, .iconst 0, 2, 0, .int (0)), (2, .putfield 47, 5, 0, .null), (5, .iload_n 1, 6, 0, .null), (6, .invokestatic 80, 9, 0, .null), (9, .ifCond .eq 17, 12, 26, .null), (12, .iload_n 2, 13, 0, .null), (13, .invokestatic 80, 16, 0, .null), (16, .ifCond .eq 10, 19, 26, .null), (19, .iload_n 3, 20, 0, .null), (20, .invokestatic 80, 23, 0, .null), (23, .ifCond .ne 9, 26, 32, .null), (26, .aload_n 0, 27, 0, .null), (27, .iconst 1, 28, 0, .int (1)), (28, .invokevirtual 70, 31, 0, .null), (31, .ireturn, 32, 0, .null), (32, .aload_n 0, 33, 0, .null), (33, .iconst 1, 34, 0, .int (1)), (34, .iload_n 1, 35, 0, .null), (35, .iload_n 2, 36, 0, .null), (36, .invokevirtual 131, 39, 0, .null), (39, .aload_n 0, 40, 0, .null), (40, .iload_n 3, 41, 0, .null), (41, .iconst 2, 42, 0, .int (2)), (42, .iconst 2, 43, 0, .int (2)), (43, .invokevirtual 135, 46, 0, .null), (46, .ireturn, 47, 0, .null)]
theorem okX8_wedge : okP cX8_wedge RX8 tX8_wedge = true := by decide +kernel
def tX8_contract : List En := [(0, .aload_n 0, 1, 0, .null), (1, .iconst 0, 2, 0, .int (0)), (2, .putfield 47, 5, 0, .null), (5, .iload_n 1, 6, 0, .null), (6, .invokestatic 80, 9, 0, .null), (9, .ifCond .eq 17, 12, 26, .null), (12, .iload_n 2, 13, 0, .null), (13, .invokestatic 80, 16, 0, .null), (16, .ifCond .eq 10, 19, 26, .null), (19, .iload_n 3, 20, 0, .null), (20, .invokestatic 80, 23, 0, .null), (23, .ifCond .ne 9, 26, 32, .null), (26, .aload_n 0, 27, 0, .null), (27, .iconst 1, 28, 0, .int (1)), (28, .invokevirtual 70, 31, 0, .null), (31, .ireturn, 32, 0, .null), (32, .aload_n 0, 33, 0, .null), (33, .iconst 2, 34, 0, .int (2)), (34, .iload_n 1, 35, 0, .null), (35, .iload_n 2, 36, 0, .null), (36, .invokevirtual 131, 39, 0, .null), (39, .aload_n 0, 40, 0, .null), (40, .iload_n 3, 41, 0, .null), (41, .iconst 3, 42, 0, .int (3)), (42, .iconst 2, 43, 0, .int (2)), (43, .invokevirtual 135, 46, 0, .null), (46, .ireturn, 47, 0, .null)]
theorem okX8_contract : okP cX8_contract RX8 tX8_contract = true := by decide +kernel
def tX8_star : List En := [(0, .aload_n 0, 1, 0, .null), (1, .iconst 0, 2, 0, .int (0)), (2, .putfield 47, 5, 0, .null), (5, .iload_n 1, 6, 0, .null), (6, .invokestatic 80, 9, 0, .null), (9, .ifCond .eq 10, 12, 19, .null), (12, .iload_n 2, 13, 0, .null), (13, .invokestatic 80, 16, 0, .null), (16, .ifCond .ne 9, 19, 25, .null), (19, .aload_n 0, 20, 0, .null), (20, .iconst 1, 21, 0, .int (1)), (21, .invokevirtual 70, 24, 0, .null), (24, .ireturn, 25, 0, .null), (25, .aload_n 0, 26, 0, .null), (26, .iload_n 1, 27, 0, .null), (27, .iload_n 1, 28, 0, .null), (28, .invokevirtual 104, 31, 0, .null), (31, .iconst 0, 32, 0, .int (0)), (32, .istore_n 3, 33, 0, .null), (33, .iload_n 3, 34, 0, .null), (34, .aload_n 0, 35, 0, .null), (35, .invokevirtual 58, 38, 0, .null), (38, .if_icmp .ge 48, 41, 86, .null), (41, .aload_n 0, 42, 0, .null), (42, .invokevirtual 58, 45, 0, .null), (45, .iconst 1, 46, 0, .int (1)), (46, .isub, 47, 0, .null), (47, .iload_n 3, 48, 0, .null), (48, .isub, 49, 0, .null), (49, .istore 4, 51, 0, .null), (51, .aload_n 0, 52, 0, .null), (52, .getfield 32, 55, 0, .null), (55, .iload_n 3, 56, 0, .null), (56, .aload_n 0, 57, 0, .null), (57, .getfield 25, 60, 0, .null), (60, .iload 4, 62, 0, .null), (62, .laload, 63, 0, .null), (63, .aload_n 0, 64, 0, .null), (64, .iload 4, 66, 0, .null), (66, .invokevirtual 94, 69, 0, .null), (69, .i2l, 70, 0, .null), (70, .lmul, 71, 0, .null), (71, .iload 4, 73, 0, .null), (73, .iload_n 3, 74, 0, .null), (74, .invokestatic 91, 77, 0, .null), (77, .i2l, 78, 0, .null), (78, .lmul, 79, 0, .null), (79, .lastore, 80, 0, .null), (80, .iinc 3 1, 83, 0, .int (1)), (83, .goto (-50), 86, 33, .null), (86, .aload_n 0, 87, 0, .null), (87, .iload_n 2, 88, 0, .null), (88, .iconst 4, 89, 0, .int (4)), (89, .invokevirtual 128, 92, 0, .null), (92, .ireturn, 93, 0, .null)]
theorem okX8_star : okP cX8_star RX8 tX8_star = true := by decide +kernel
def tX8_part : List En := [(0, .aload_n 0, 1, 0, .null), (1, .iconst 0, 2, 0, .int (0)), (2, .putfield 47, 5, 0, .null), (5, .iload_n 1, 6, 0, .null), (6, .invokestatic 80, 9, 0, .null), (9, .ifCond .eq 10, 12, 19, .null), (12, .iload_n 3, 13, 0, .null), (13, .invokestatic 80, 16, 0, .null), (16, .ifCond .ne 9, 19, 25, .null), (19, .aload_n 0, 20, 0, .null), (20, .iconst 1, 21, 0, .int (1)), (21, .invokevirtual 70, 24, 0, .null), (24, .ireturn, 25, 0, .null), (25, .iload_n 2, 26, 0, .null), (26, .iconst 0, 27, 0, .int (0)), (27, .aload_n 0, 28, 0, .null), (28, .getfield 7, 31, 0, .null), (31, .iconst 0, 32, 0, .int (0)), (32, .iaload, 33, 0, .null), (33, .invokestatic 54, 36, 0, .null), (36, .ifCond .ne 9, 39, 45, .null), (39, .aload_n 0, 40, 0, .null), (40, .iconst 2, 41, 0, .int (2)), (41, .invokevirtual 70, 44, 0, .null), (44, .ireturn, 45, 0, .null), (45, .aload_n 0, 46, 0, .null), (46, .iload_n 1, 47, 0, .null), (47, .iload_n 1, 48, 0, .null), (48, .invokevirtual 104, 51, 0, .null), (51, .iconst 0, 52, 0, .int (0)), (52, .istore 4, 54, 0, .null), (54, .iload 4, 56, 0, .null), (56, .aload_n 0, 57, 0, .null), (57, .invokevirtual 58, 60, 0, .null), (60, .if_icmp .ge 36, 63, 96, .null), (63, .aload_n 0, 64, 0, .null), (64, .getfield 32, 67, 0, .null), (67, .iload 4, 69, 0, .null), (69, .iload 4, 71, 0, .null), (71, .invokestatic 62, 74, 0, .null), (74, .iload_n 2, 75, 0, .null), (75, .if_icmp .ne 13, 78, 88, .null), (78, .aload_n 0, 79, 0, .null), (79, .getfield 25, 82, 0, .null), (82, .iload 4, 84, 0, .null), (84, .laload, 85, 0, .null), (85, .goto 4, 88, 89, .null), (88, .lconst 0, 89, 0, .long 0), (89, .lastore, 90, 0, .null), (90, .iinc 4 1, 93, 0, .int (1)), (93, .goto (-39), 96, 54, .null), (96, .aload_n 0, 97, 0, .null), (97, .iload_n 3, 98, 0, .null), (98, .iconst 5, 99, 0, .int (5)), (99, .invokevirtual 128, 102, 0, .null), (102, .ireturn, 103, 0, .null)]
theorem okX8_part : okP cX8_part RX8 tX8_part = true := by decide +kernel
def tX8_reverse : List En := [(0, .aload_n 0, 1, 0, .null), (1, .iconst 0, 2, 0, .int (0)), (2, .putfield 47, 5, 0, .null), (5, .iload_n 1, 6, 0, .null), (6, .invokestatic 80, 9, 0, .null), (9, .ifCond .eq 10, 12, 19, .null), (12, .iload_n 2, 13, 0, .null), (13, .invokestatic 80, 16, 0, .null), (16, .ifCond .ne 9, 19, 25, .null), (19, .aload_n 0, 20, 0, .null), (20, .iconst 1, 21, 0, .int (1)), (21, .invokevirtual 70, 24, 0, .null), (24, .ireturn, 25, 0, .null), (25, .aload_n 0, 26, 0, .null), (26, .iload_n 1, 27, 0, .null), (27, .iload_n 1, 28, 0, .null), (28, .invokevirtual 104, 31, 0, .null), (31, .iconst 0, 32, 0, .int (0)), (32, .istore_n 3, 33, 0, .null), (33, .iload_n 3, 34, 0, .null), (34, .aload_n 0, 35, 0, .null), (35, .invokevirtual 58, 38, 0, .null), (38, .if_icmp .ge 41, 41, 79, .null), (41, .aload_n 0, 42, 0, .null), (42, .getfield 32, 45, 0, .null), (45, .iload_n 3, 46, 0, .null), (46, .iload_n 3, 47, 0, .null), (47, .invokestatic 62, 50, 0, .null), (50, .iconst 4, 51, 0, .int (4)), (51, .irem, 52, 0, .null), (52, .iconst 1, 53, 0, .int (1)), (53, .if_icmp .le 13, 56, 66, .null), (56, .aload_n 0, 57, 0, .null), (57, .getfield 25, 60, 0, .null), (60, .iload_n 3, 61, 0, .null), (61, .laload, 62, 0, .null), (62, .lneg, 63, 0, .null), (63, .goto 9, 66, 72, .null), (66, .aload_n 0, 67, 0, .null), (67, .getfield 25, 70, 0, .null), (70, .iload_n 3, 71, 0, .null), (71, .laload, 72, 0, .null), (72, .lastore, 73, 0, .null), (73, .iinc 3 1, 76, 0, .int (1)), (76, .goto (-43), 79, 33, .null), (79, .aload_n 0, 80, 0, .null), (80, .iload_n 2, 81, 0, .null), (81, .bipush 6, 83, 0, .int (6)), (83, .invokevirtual 128, 86, 0, .null), (86, .ireturn, 87, 0, .null)]
theorem okX8_reverse : okP cX8_reverse RX8 tX8_reverse = true := by decide +kernel
def tX8_push : List En := [(0, .aload_n 0, 1, 0, .null), (1, .iconst 0, 2, 0, .int (0)), (2, .putfield 47, 5, 0, .null), (5, .iload_n 1, 6, 0, .null), (6, .invokestatic 80, 9, 0, .null), (9, .ifCond .eq 10, 12, 19, .null), (12, .iload_n 2, 13, 0, .null), (13, .invokestatic 80, 16, 0, .null), (16, .ifCond .ne 9, 19, 25, .null), (19, .aload_n 0, 20, 0, .null), (20, .iconst 1, 21, 0, .int (1)), (21, .invokevirtual 70, 24, 0, .null), (24, .ireturn, 25, 0, .null), (25, .aload_n 0, 26, 0, .null), (26, .iconst 3, 27, 0, .int (3)), (27, .iload_n 1, 28, 0, .null), (28, .iload_n 1, 29, 0, .null), (29, .invokevirtual 131, 32, 0, .null), (32, .aload_n 0, 33, 0, .null), (33, .iload_n 2, 34, 0, .null), (34, .bipush 7, 36, 0, .int (7)), (36, .iconst 2, 37, 0, .int (2)), (37, .invokevirtual 135, 40, 0, .null), (40, .ireturn, 41, 0, .null)]
theorem okX8_push : okP cX8_push RX8 tX8_push = true := by decide +kernel
def tX8_append : List En := [(0, .aload_n 0, 1, 0, .null), (1, .iconst 0, 2, 0, .int (0)), (2, .putfield 47, 5, 0, .null), (5, .iload_n 1, 6, 0, .null), (6, .bipush 33, 8, 0, .int (33)), (8, .bipush 126, 10, 0, .int (126)), (10, .invokestatic 54, 13, 0, .null), (13, .ifCond .ne 9, 16, 22, .null), (16, .aload_n 0, 17, 0, .null), (17, .iconst 1, 18, 0, .int (1)), (18, .invokevirtual 70, 21, 0, .null), (21, .ireturn, 22, 0, .null), (22, .aload_n 0, 23, 0, .null), (23, .getfield 139, 26, 0, .null), (26, .bipush 60, 28, 0, .int (60)), (28, .if_icmp .ne 9, 31, 37, .null), (31, .aload_n 0, 32, 0, .null), (32, .iconst 2, 33, 0, .int (2)), (33, .invokevirtual 70, 36, 0, .null), (36, .ireturn, 37, 0, .null), (37, .aload_n 0, 38, 0, .null), (38, .getfield 22, 41, 0, .null), (41, .aload_n 0, 42, 0, .null), (42, .getfield 139, 45, 0, .null), (45, .iload_n 1, 46, 0, .null), (46, .iastore, 47, 0, .null), (47, .aload_n 0, 48, 0, .null), (48, .dup, 49, 0, .null), (49, .getfield 139, 52, 0, .null), (52, .iconst 1, 53, 0, .int (1)), (53, .iadd, 54, 0, .null), (54, .putfield 139, 57, 0, .null), (57, .aload_n 0, 58, 0, .null), (58, .getfield 139, 61, 0, .null), (61, .ireturn, 62, 0, .null)]
theorem okX8_append : okP cX8_append RX8 tX8_append = true := by decide +kernel
def tX8_clearBuffer : List En := [(0, .aload_n 0, 1, 0, .null), (1, .iconst 0, 2, 0, .int (0)), (2, .putfield 47, 5, 0, .null), (5, .aload_n 0, 6, 0, .null), (6, .getfield 139, 9, 0, .null), (9, .istore_n 1, 10, 0, .null), (10, .aload_n 0, 11, 0, .null), (11, .iconst 0, 12, 0, .int (0)), (12, .putfield 139, 15, 0, .null), (15, .iload_n 1, 16, 0, .null), (16, .ireturn, 17, 0, .null)]
theorem okX8_clearBuffer : okP cX8_clearBuffer RX8 tX8_clearBuffer = true := by decide +kernel
def tX8_addTerm : List En := [(0, .aload_n 0, 1, 0, .null), (1, .getfield 142, 4, 0, .null), (4, .ifCond .ne 7, 7, 11, .null), (7, .iconst 1, 8, 0, .int (1)), (8, .goto 7, 11, 15, .null), (11, .aload_n 0, 12, 0, .null), (12, .getfield 145, 15, 0, .null), (15, .istore_n 1, 16, 0, .null), (16, .aload_n 0, 17, 0, .null), (17, .getfield 32, 20, 0, .null), (20, .aload_n 0, 21, 0, .null), (21, .getfield 148, 24, 0, .null), (24, .dup2, 25, 0, .null), (25, .laload, 26, 0, .null), (26, .aload_n 0, 27, 0, .null), (27, .getfield 151, 30, 0, .null), (30, .iconst 1, 31, 0, .int (1)), (31, .if_icmp .ne 9, 34, 40, .null), (34, .iload_n 1, 35, 0, .null), (35, .ineg, 36, 0, .null), (36, .i2l, 37, 0, .null), (37, .goto 5, 40, 42, .null), (40, .iload_n 1, 41, 0, .null), (41, .i2l, 42, 0, .null), (42, .ladd, 43, 0, .null), (43, .lastore, 44, 0, .null), (44, .aload_n 0, 45, 0, .null), (45, .iconst 0, 46, 0, .int (0)), (46, .putfield 142, 49, 0, .null), (49, .aload_n 0, 50, 0, .null), (50, .iconst 0, 51, 0, .int (0)), (51, .putfield 145, 54, 0, .null), (54, .aload_n 0, 55, 0, .null), (55, .iconst 0, 56, 0, .int (0)), (56, .putfield 148, 59, 0, .null), (59, .return_, 60, 0, .null)]
theorem okX8_addTerm : okP cX8_addTerm RX8 tX8_addTerm = true := by decide +kernel
def tX8_beginTerm : List En := [(0, .iload_n 1, 1, 0, .null), (1, .bipush 101, 3, 0, .int (101)), (3, .if_icmp .ne 10, 6, 13, .null), (6, .aload_n 0, 7, 0, .null), (7, .iconst (-1), 8, 0, .int (-1)), (8, .putfield 154, 11, 0, .null), (11, .iconst 3, 12, 0, .int (3)), (12, .ireturn, 13, 0, .null), (13, .iload_n 1, 14, 0, .null), (14, .bipush 49, 16, 0, .int (49)), (16, .bipush 57, 18, 0, .int (57)), (18, .invokestatic 54, 21, 0, .null), (21, .ifCond .ne 6, 24, 27, .null), (24, .ldc 121, 26, 0, .int (-1000000000)), (26, .ireturn, 27, 0, .null), (27, .aload_n 0, 28, 0, .null), (28, .iconst 1, 29, 0, .int (1)), (29, .putfield 142, 32, 0, .null), (32, .aload_n 0, 33, 0, .null), (33, .iload_n 1, 34, 0, .null), (34, .bipush 48, 36, 0, .int (48)), (36, .isub, 37, 0, .null), (37, .putfield 145, 40, 0, .null), (40, .iconst 2, 41, 0, .int (2)), (41, .ireturn, 42, 0, .null)]
theorem okX8_beginTerm : okP cX8_beginTerm RX8 tX8_beginTerm = true := by decide +kernel
def tX8_endTerm : List En := [(0, .iload_n 1, 1, 0, .null), (1, .bipush 43, 3, 0, .int (43)), (3, .if_icmp .eq 12, 6, 15, .null), (6, .iload_n 1, 7, 0, .null), (7, .bipush 45, 9, 0, .int (45)), (9, .if_icmp .eq 6, 12, 15, .null), (12, .ldc 121, 14, 0, .int (-1000000000)), (14, .ireturn, 15, 0, .null), (15, .aload_n 0, 16, 0, .null), (16, .invokevirtual 157, 19, 0, .null), (19, .aload_n 0, 20, 0, .null), (20, .iload_n 1, 21, 0, .null), (21, .bipush 45, 23, 0, .int (45)), (23, .if_icmp .ne 7, 26, 30, .null), (26, .iconst 1, 27, 0, .int (1)), (27, .goto 4, 30, 31, .null), (30, .iconst 0, 31, 0, .int (0)), (31, .putfield 151, 34, 0, .null), (34, .iconst 1, 35, 0, .int (1)), (35, .ireturn, 36, 0, .null)]
theorem okX8_endTerm : okP cX8_endTerm RX8 tX8_endTerm = true := by decide +kernel
def tX8_nextState : List En := [(0, .iload_n 1, 1, 0, .null), (1, .ifCond .ne 11, 4, 12, .null), (4, .iload_n 2, 5, 0, .null), (5, .bipush 48, 7, 0, .int (48)), (7, .if_icmp .ne 5, 10, 12, .null), (10, .iconst 5, 11, 0, .int (5)), (11, .ireturn, 12, 0, .null), (12, .iload_n 1, 13, 0, .null), (13, .ifCond .ne 16, 16, 29, .null), (16, .iload_n 2, 17, 0, .null), (17, .bipush 45, 19, 0, .int (45)), (19, .if_icmp .ne 10, 22, 29, .null), (22, .aload_n 0, 23, 0, .null), (23, .iconst 1, 24, 0, .int (1)), (24, .putfield 151, 27, 0, .null), (27, .iconst 1, 28, 0, .int (1)), (28, .ireturn, 29, 0, .null), (29, .iload_n 1, 30, 0, .null), (30, .iconst 2, 31, 0, .int (2)), (31, .if_icmp .ge 9, 34, 40, .null), (34, .aload_n 0, 35, 0, .null), (35, .iload_n 2, 36, 0, .null), (36, .invokevirtual 160, 39, 0, .null), (39, .ireturn, 40, 0, .null), (40, .iload_n 1, 41, 0, .null), (41, .iconst 2, 42, 0, .int (2)), (42, .if_icmp .ne 55, 45, 97, .null), (45, .iload_n 2, 46, 0, .null), (46, .bipush 48, 48, 0, .int (48)), (48, .bipush 57, 50, 0, .int (57)), (50, .invokestatic 54, 53, 0, .null), (53, .ifCond .eq 44, 56, 97, .null), (56, .aload_n 0, 57, 0, .null), (57, .bipush 10, 59, 0, .int (10)), (59, .aload_n 0, 60, 0, .null), (60, .getfield 145, 63, 0, .null), (63, .imul, 64, 0, .null), (64, .iload_n 2, 65, 0, .null), (65, .iadd, 66, 0, .null), (66, .bipush 48, 68, 0, .int (48)), (68, .isub, 69, 0, .null), (69, .putfield 145, 72, 0, .null), (72, .aload_n 0, 73, 0, .null), (73, .dup, 74, 0, .null), (74, .getfield 142, 77, 0, .null), (77, .iconst 1, 78, 0, .int (1)), (78, .iadd, 79, 0, .null), (79, .putfield 142, 82, 0, .null), (82, .aload_n 0, 83, 0, .null), (83, .getfield 142, 86, 0, .null), (86, .iconst 5, 87, 0, .int (5)), (87, .if_icmp .le 8, 90, 95, .null), (90, .ldc 121, 92, 0, .int (-1000000000)), (92, .goto 4, 95, 96, .null), (95, .iconst 2, 96, 0, .int (2)), (96, .ireturn, 97, 0, .null), (97, .iload_n 1, 98, 0, .null), (98, .iconst 2, 99, 0, .int (2)), (99, .if_icmp .ne 16, 102, 115, .null), (102, .iload_n 2, 103, 0, .null), (103, .bipush 101, 105, 0, .int (101)), (105, .if_icmp .ne 10, 108, 115, .null), (108, .aload_n 0, 109, 0, .null), (109, .iconst (-1), 110, 0, .int (-1)), (110, .putfield 154, 113, 0, .null), (113, .iconst 3, 114, 0, .int (3)), (114, .ireturn, 115, 0, .null), (115, .iload_n 1, 116, 0, .null), (116, .iconst 3, 117, 0, .int (3)), (117, .if_icmp .eq 8, 120, 125, .null), (120, .iload_n 1, 121, 0, .null), (121, .iconst 4, 122, 0, .int (4)), (122, .if_icmp .ne 80, 125, 202, .null), (125, .iload_n 2, 126, 0, .null), (126, .bipush 48, 128, 0, .int (48)), (128, .bipush 57, 130, 0, .int (57)), (130, .invokestatic 54, 133, 0, .null), (133, .ifCond .eq 69, 136, 202, .null), (136, .iload_n 2, 137, 0, .null), (137, .bipush 48, 139, 0, .int (48)), (139, .isub, 140, 0, .null), (140, .istore_n 3, 141, 0, .null), (141, .aload_n 0, 142, 0, .null), (142, .iload_n 3, 143, 0, .null), (143, .invokevirtual 76, 146, 0, .null), (146, .ifCond .eq 15, 149, 161, .null), (149, .iload_n 3, 150, 0, .null), (150, .aload_n 0, 151, 0, .null), (151, .getfield 154, 154, 0, .null), (154, .if_icmp .le 7, 157, 161, .null), (157, .iconst 1, 158, 0, .int (1)), (158, .goto 4, 161, 162, .null), (161, .iconst 0, 162, 0, .int (0)), (162, .istore 4, 164, 0, .null), (164, .aload_n 0, 165, 0, .null), (165, .dup, 166, 0, .null), (166, .getfield 148, 169, 0, .null), (169, .iload 4, 171, 0, .null), (171, .ifCond .eq 9, 174, 180, .null), (174, .iconst 1, 175, 0, .int (1)), (175, .iload_n 3, 176, 0, .null), (176, .ishl, 177, 0, .null), (177, .goto 4, 180, 181, .null), (180, .iconst 0, 181, 0, .int (0)), (181, .ior, 182, 0, .null), (182, .putfield 148, 185, 0, .null), (185, .aload_n 0, 186, 0, .null), (186, .iload_n 3, 187, 0, .null), (187, .putfield 154, 190, 0, .null), (190, .iload 4, 192, 0, .null), (192, .ifCond .eq 7, 195, 199, .null), (195, .iconst 4, 196, 0, .int (4)), (196, .goto 5, 199, 201, .null), (199, .ldc 121, 201, 0, .int (-1000000000)), (201, .ireturn, 202, 0, .null), (202, .iload_n 1, 203, 0, .null), (203, .iconst 2, 204, 0, .int (2)), (204, .if_icmp .eq 8, 207, 212, .null), (207, .iload_n 1, 208, 0, .null), (208, .iconst 4, 209, 0, .int (4)), (209, .if_icmp .ne 11, 212, 220, .null), (212, .aload_n 0, 213, 0, .null), (213, .iload_n 2, 214, 0, .null), (214, .invokevirtual 163, 217, 0, .null), (217, .goto 5, 220, 222, .null), (220, .ldc 121, 222, 0, .int (-1000000000)), (222, .ireturn, 223, 0, .null)]
theorem okX8_nextState : okP cX8_nextState RX8 tX8_nextState = true := by decide +kernel
def tX8_read : List En := [(0, .iconst 0, 1, 0, .int (0)), (1, .istore_n 1, 2, 0, .null), (2, .iload_n 1, 3, 0, .null), (3, .bipush 32, 5, 0, .int (32)), (5, .if_icmp .ge 16, 8, 21, .null), (8, .aload_n 0, 9, 0, .null), (9, .getfield 32, 12, 0, .null), (12, .iload_n 1, 13, 0, .null), (13, .lconst 0, 14, 0, .long 0), (14, .lastore, 15, 0, .null), (15, .iinc 1 1, 18, 0, .int (1)), (18, .goto (-16), 21, 2, .null), (21, .aload_n 0, 22, 0, .null), (22, .iconst 0, 23, 0, .int (0)), (23, .putfield 142, 26, 0, .null), (26, .aload_n 0, 27, 0, .null), (27, .iconst 0, 28, 0, .int (0)), (28, .putfield 145, 31, 0, .null), (31, .aload_n 0, 32, 0, .null), (32, .iconst 0, 33, 0, .int (0)), (33, .putfield 148, 36, 0, .null), (36, .aload_n 0, 37, 0, .null), (37, .iconst 0, 38, 0, .int (0)), (38, .putfield 151, 41, 0, .null), (41, .iconst 0, 42, 0, .int (0)), (42, .istore_n 1, 43, 0, .null), (43, .iconst 0, 44, 0, .int (0)), (44, .istore_n 2, 45, 0, .null), (45, .iconst 1, 46, 0, .int (1)), (46, .istore_n 3, 47, 0, .null), (47, .iload_n 2, 48, 0, .null), (48, .aload_n 0, 49, 0, .null), (49, .getfield 139, 52, 0, .null), (52, .if_icmp .ge 59, 55, 111, .null), (55, .iload_n 3, 56, 0, .null), (56, .ifCond .eq 55, 59, 111, .null), (59, .aload_n 0, 60, 0, .null), (60, .iload_n 1, 61, 0, .null), (61, .aload_n 0, 62, 0, .null), (62, .getfield 22, 65, 0, .null), (65, .iload_n 2, 66, 0, .null), (66, .iaload, 67, 0, .null), (67, .invokevirtual 166, 70, 0, .null), (70, .istore 4, 72, 0, .null), (72, .iload 4, 74, 0, .null), (74, .ldc 121, 76, 0, .int (-1000000000)), (76, .if_icmp .eq 7, 79, 83, .null), (79, .iconst 1, 80, 0, .int (1)), (80, .goto 4, 83, 84, .null), (83, .iconst 0, 84, 0, .int (0)), (84, .istore_n 3, 85, 0, .null), (85, .iload_n 3, 86, 0, .null), (86, .ifCond .eq 8, 89, 94, .null), (89, .iload 4, 91, 0, .null), (91, .goto 4, 94, 95, .null), (94, .iload_n 1, 95, 0, .null), (95, .istore_n 1, 96, 0, .null), (96, .iload_n 2, 97, 0, .null), (97, .iload_n 3, 98, 0, .null), (98, .ifCond .eq 7, 101, 105, .null), (101, .iconst 1, 102, 0, .int (1)), (102, .goto 4, 105, 106, .null), (105, .iconst 0, 106, 0, .int (0)), (106, .iadd, 107, 0, .null), (107, .istore_n 2, 108, 0, .null), (108, .goto (-61), 111, 47, .null), (111, .aload_n 0, 112, 0, .null), (112, .iload_n 2, 113, 0, .null), (113, .putfield 169, 116, 0, .null), (116, .aload_n 0, 117, 0, .null), (117, .iload_n 3, 118, 0, .null), (118, .ifCond .eq 22, 121, 140, .null), (121, .iload_n 1, 122, 0, .null), (122, .iconst 2, 123, 0, .int (2)), (123, .if_icmp .eq 13, 126, 136, .null), (126, .iload_n 1, 127, 0, .null), (127, .iconst 4, 128, 0, .int (4)), (128, .if_icmp .eq 8, 131, 136, .null), (131, .iload_n 1, 132, 0, .null), (132, .iconst 5, 133, 0, .int (5)), (133, .if_icmp .ne 7, 136, 140, .null), (136, .iconst 1, 137, 0, .int (1)), (137, .goto 4, 140, 141, .null), (140, .iconst 0, 141, 0, .int (0)), (141, .putfield 172, 144, 0, .null), (144, .aload_n 0, 145, 0, .null), (145, .getfield 172, 148, 0, .null), (148, .ifCond .eq 12, 151, 160, .null), (151, .iload_n 1, 152, 0, .null), (152, .iconst 5, 153, 0, .int (5)), (153, .if_icmp .eq 7, 156, 160, .null), (156, .aload_n 0, 157, 0, .null), (157, .invokevirtual 157, 160, 0, .null), (160, .return_, 161, 0, .null)]
theorem okX8_read : okP cX8_read RX8 tX8_read = true := by decide +kernel
def tX8_firstError : List En := [(0, .aload_n 0, 1, 0, .null), (1, .iconst 0, 2, 0, .int (0)), (2, .putfield 47, 5, 0, .null), (5, .aload_n 0, 6, 0, .null), (6, .invokevirtual 176, 9, 0, .null), (9, .aload_n 0, 10, 0, .null), (10, .getfield 169, 13, 0, .null), (13, .ireturn, 14, 0, .null)]
theorem okX8_firstError : okP cX8_firstError RX8 tX8_firstError = true := by decide +kernel
def tX8_put : List En := [(0, .aload_n 0, 1, 0, .null), (1, .iconst 0, 2, 0, .int (0)), (2, .putfield 47, 5, 0, .null), (5, .iload_n 1, 6, 0, .null), (6, .invokestatic 80, 9, 0, .null), (9, .ifCond .ne 9, 12, 18, .null), (12, .aload_n 0, 13, 0, .null), (13, .iconst 1, 14, 0, .int (1)), (14, .invokevirtual 70, 17, 0, .null), (17, .ireturn, 18, 0, .null), (18, .aload_n 0, 19, 0, .null), (19, .invokevirtual 176, 22, 0, .null), (22, .aload_n 0, 23, 0, .null), (23, .getfield 172, 26, 0, .null), (26, .ifCond .ne 9, 29, 35, .null), (29, .aload_n 0, 30, 0, .null), (30, .iconst 2, 31, 0, .int (2)), (31, .invokevirtual 70, 34, 0, .null), (34, .ireturn, 35, 0, .null), (35, .aload_n 0, 36, 0, .null), (36, .invokevirtual 73, 39, 0, .null), (39, .iconst 0, 40, 0, .int (0)), (40, .istore_n 2, 41, 0, .null), (41, .iload_n 2, 42, 0, .null), (42, .aload_n 0, 43, 0, .null), (43, .invokevirtual 58, 46, 0, .null), (46, .if_icmp .ge 30, 49, 76, .null), (49, .aload_n 0, 50, 0, .null), (50, .getfield 7, 53, 0, .null), (53, .bipush 40, 55, 0, .int (40)), (55, .bipush 32, 57, 0, .int (32)), (57, .iload_n 1, 58, 0, .null), (58, .imul, 59, 0, .null), (59, .iadd, 60, 0, .null), (60, .iload_n 2, 61, 0, .null), (61, .iadd, 62, 0, .null), (62, .aload_n 0, 63, 0, .null), (63, .getfield 32, 66, 0, .null), (66, .iload_n 2, 67, 0, .null), (67, .laload, 68, 0, .null), (68, .l2i, 69, 0, .null), (69, .iastore, 70, 0, .null), (70, .iinc 2 1, 73, 0, .int (1)), (73, .goto (-32), 76, 41, .null), (76, .aload_n 0, 77, 0, .null), (77, .iconst 0, 78, 0, .int (0)), (78, .putfield 139, 81, 0, .null), (81, .aload_n 0, 82, 0, .null), (82, .iload_n 1, 83, 0, .null), (83, .invokevirtual 122, 86, 0, .null), (86, .ireturn, 87, 0, .null)]
theorem okX8_put : okP cX8_put RX8 tX8_put = true := by decide +kernel
def tX8_forms : List En := [(0, .iconst 0, 1, 0, .int (0)), (1, .istore_n 1, 2, 0, .null), (2, .iconst 0, 3, 0, .int (0)), (3, .istore_n 2, 4, 0, .null), (4, .iload_n 2, 5, 0, .null), (5, .bipush 8, 7, 0, .int (8)), (7, .if_icmp .ge 25, 10, 32, .null), (10, .iload_n 1, 11, 0, .null), (11, .aload_n 0, 12, 0, .null), (12, .iload_n 2, 13, 0, .null), (13, .invokevirtual 122, 16, 0, .null), (16, .ifCond .ne 7, 19, 23, .null), (19, .iconst 0, 20, 0, .int (0)), (20, .goto 4, 23, 24, .null), (23, .iconst 1, 24, 0, .int (1)), (24, .iadd, 25, 0, .null), (25, .istore_n 1, 26, 0, .null), (26, .iinc 2 1, 29, 0, .int (1)), (29, .goto (-25), 32, 4, .null), (32, .iload_n 1, 33, 0, .null), (33, .ireturn, 34, 0, .null)]
theorem okX8_forms : okP cX8_forms RX8 tX8_forms = true := by decide +kernel
def tX8_kept : List En := [(0, .iload_n 0, 1, 0, .null), (1, .bipush 31, 3, 0, .int (31)), (3, .if_icmp .ge 7, 6, 10, .null), (6, .iload_n 0, 7, 0, .null), (7, .goto 10, 10, 17, .null), (10, .iload_n 0, 11, 0, .null), (11, .bipush 31, 13, 0, .int (31)), (13, .isub, 14, 0, .null), (14, .bipush 40, 16, 0, .int (40)), (16, .iadd, 17, 0, .null), (17, .ireturn, 18, 0, .null)]
theorem okX8_kept : okP cX8_kept RX8 tX8_kept = true := by decide +kernel
def tX8_take : List En := [(0, .aload_n 0, 1, 0, .null), (1, .iconst 0, 2, 0, .int (0)), (2, .putfield 47, 5, 0, .null), (5, .iload_n 1, 6, 0, .null), (6, .iconst 0, 7, 0, .int (0)), (7, .iconst 1, 8, 0, .int (1)), (8, .invokestatic 54, 11, 0, .null), (11, .ifCond .ne 9, 14, 20, .null), (14, .aload_n 0, 15, 0, .null), (15, .iconst 1, 16, 0, .int (1)), (16, .invokevirtual 70, 19, 0, .null), (19, .ireturn, 20, 0, .null), (20, .iconst 0, 21, 0, .int (0)), (21, .istore_n 2, 22, 0, .null), (22, .iload_n 2, 23, 0, .null), (23, .sipush 287, 26, 0, .int (287)), (26, .if_icmp .ge 30, 29, 56, .null), (29, .aload_n 0, 30, 0, .null), (30, .getfield 16, 33, 0, .null), (33, .sipush 287, 36, 0, .int (287)), (36, .iload_n 1, 37, 0, .null), (37, .imul, 38, 0, .null), (38, .iload_n 2, 39, 0, .null), (39, .iadd, 40, 0, .null), (40, .aload_n 0, 41, 0, .null), (41, .getfield 7, 44, 0, .null), (44, .iload_n 2, 45, 0, .null), (45, .invokestatic 179, 48, 0, .null), (48, .iaload, 49, 0, .null), (49, .iastore, 50, 0, .null), (50, .iinc 2 1, 53, 0, .int (1)), (53, .goto (-31), 56, 22, .null), (56, .aload_n 0, 57, 0, .null), (57, .getfield 19, 60, 0, .null), (60, .iload_n 1, 61, 0, .null), (61, .iconst 1, 62, 0, .int (1)), (62, .iastore, 63, 0, .null), (63, .aload_n 0, 64, 0, .null), (64, .invokevirtual 182, 67, 0, .null), (67, .ireturn, 68, 0, .null)]
theorem okX8_take : okP cX8_take RX8 tX8_take = true := by decide +kernel
def tX8_restore : List En := [(0, .aload_n 0, 1, 0, .null), (1, .iconst 0, 2, 0, .int (0)), (2, .putfield 47, 5, 0, .null), (5, .iload_n 1, 6, 0, .null), (6, .iconst 0, 7, 0, .int (0)), (7, .iconst 1, 8, 0, .int (1)), (8, .invokestatic 54, 11, 0, .null), (11, .ifCond .ne 9, 14, 20, .null), (14, .aload_n 0, 15, 0, .null), (15, .iconst 1, 16, 0, .int (1)), (16, .invokevirtual 70, 19, 0, .null), (19, .ireturn, 20, 0, .null), (20, .aload_n 0, 21, 0, .null), (21, .getfield 19, 24, 0, .null), (24, .iload_n 1, 25, 0, .null), (25, .iaload, 26, 0, .null), (26, .ifCond .ne 9, 29, 35, .null), (29, .aload_n 0, 30, 0, .null), (30, .iconst 2, 31, 0, .int (2)), (31, .invokevirtual 70, 34, 0, .null), (34, .ireturn, 35, 0, .null), (35, .aload_n 0, 36, 0, .null), (36, .invokevirtual 73, 39, 0, .null), (39, .iconst 0, 40, 0, .int (0)), (40, .istore_n 2, 41, 0, .null), (41, .iload_n 2, 42, 0, .null), (42, .sipush 287, 45, 0, .int (287)), (45, .if_icmp .ge 30, 48, 75, .null), (48, .aload_n 0, 49, 0, .null), (49, .getfield 7, 52, 0, .null), (52, .iload_n 2, 53, 0, .null), (53, .invokestatic 179, 56, 0, .null), (56, .aload_n 0, 57, 0, .null), (57, .getfield 16, 60, 0, .null), (60, .sipush 287, 63, 0, .int (287)), (63, .iload_n 1, 64, 0, .null), (64, .imul, 65, 0, .null), (65, .iload_n 2, 66, 0, .null), (66, .iadd, 67, 0, .null), (67, .iaload, 68, 0, .null), (68, .iastore, 69, 0, .null), (69, .iinc 2 1, 72, 0, .int (1)), (72, .goto (-31), 75, 41, .null), (75, .aload_n 0, 76, 0, .null), (76, .invokevirtual 182, 79, 0, .null), (79, .ireturn, 80, 0, .null)]
theorem okX8_restore : okP cX8_restore RX8 tX8_restore = true := by decide +kernel
def tX8_undo : List En := [(0, .aload_n 0, 1, 0, .null), (1, .iconst 0, 2, 0, .int (0)), (2, .putfield 47, 5, 0, .null), (5, .aload_n 0, 6, 0, .null), (6, .getfield 51, 9, 0, .null), (9, .ifCond .ne 9, 12, 18, .null), (12, .aload_n 0, 13, 0, .null), (13, .iconst 1, 14, 0, .int (1)), (14, .invokevirtual 70, 17, 0, .null), (17, .ireturn, 18, 0, .null), (18, .aload_n 0, 19, 0, .null), (19, .dup, 20, 0, .null), (20, .getfield 51, 23, 0, .null), (23, .iconst 1, 24, 0, .int (1)), (24, .isub, 25, 0, .null), (25, .putfield 51, 28, 0, .null), (28, .iconst 0, 29, 0, .int (0)), (29, .istore_n 1, 30, 0, .null), (30, .iload_n 1, 31, 0, .null), (31, .sipush 296, 34, 0, .int (296)), (34, .if_icmp .ge 30, 37, 64, .null), (37, .aload_n 0, 38, 0, .null), (38, .getfield 7, 41, 0, .null), (41, .iload_n 1, 42, 0, .null), (42, .aload_n 0, 43, 0, .null), (43, .getfield 13, 46, 0, .null), (46, .sipush 296, 49, 0, .int (296)), (49, .aload_n 0, 50, 0, .null), (50, .getfield 51, 53, 0, .null), (53, .imul, 54, 0, .null), (54, .iload_n 1, 55, 0, .null), (55, .iadd, 56, 0, .null), (56, .iaload, 57, 0, .null), (57, .iastore, 58, 0, .null), (58, .iinc 1 1, 61, 0, .int (1)), (61, .goto (-31), 64, 30, .null), (64, .aload_n 0, 65, 0, .null), (65, .getfield 51, 68, 0, .null), (68, .ireturn, 69, 0, .null)]
theorem okX8_undo : okP cX8_undo RX8 tX8_undo = true := by decide +kernel
def tX8_coefficient : List En := [(0, .aload_n 0, 1, 0, .null), (1, .iconst 0, 2, 0, .int (0)), (2, .putfield 47, 5, 0, .null), (5, .iload_n 1, 6, 0, .null), (6, .invokestatic 80, 9, 0, .null), (9, .ifCond .eq 20, 12, 29, .null), (12, .aload_n 0, 13, 0, .null), (13, .iload_n 2, 14, 0, .null), (14, .invokevirtual 83, 17, 0, .null), (17, .ifCond .eq 12, 20, 29, .null), (20, .aload_n 0, 21, 0, .null), (21, .iload_n 1, 22, 0, .null), (22, .iload_n 2, 23, 0, .null), (23, .invokevirtual 88, 26, 0, .null), (26, .goto 8, 29, 34, .null), (29, .aload_n 0, 30, 0, .null), (30, .iconst 1, 31, 0, .int (1)), (31, .invokevirtual 70, 34, 0, .null), (34, .ireturn, 35, 0, .null)]
theorem okX8_coefficient : okP cX8_coefficient RX8 tX8_coefficient = true := by decide +kernel
def tX8_lowest : List En := [(0, .ldc 121, 2, 0, .int (-1000000000)), (2, .istore_n 2, 3, 0, .null), (3, .iconst 0, 4, 0, .int (0)), (4, .istore_n 3, 5, 0, .null), (5, .iload_n 3, 6, 0, .null), (6, .aload_n 0, 7, 0, .null), (7, .invokevirtual 58, 10, 0, .null), (10, .if_icmp .ge 41, 13, 51, .null), (13, .aload_n 0, 14, 0, .null), (14, .iload_n 1, 15, 0, .null), (15, .iload_n 3, 16, 0, .null), (16, .invokevirtual 88, 19, 0, .null), (19, .ifCond .eq 24, 22, 43, .null), (22, .iload_n 2, 23, 0, .null), (23, .ldc 121, 25, 0, .int (-1000000000)), (25, .if_icmp .eq 11, 28, 36, .null), (28, .iload_n 3, 29, 0, .null), (29, .invokestatic 62, 32, 0, .null), (32, .iload_n 2, 33, 0, .null), (33, .if_icmp .ge 10, 36, 43, .null), (36, .iload_n 3, 37, 0, .null), (37, .invokestatic 62, 40, 0, .null), (40, .goto 4, 43, 44, .null), (43, .iload_n 2, 44, 0, .null), (44, .istore_n 2, 45, 0, .null), (45, .iinc 3 1, 48, 0, .int (1)), (48, .goto (-43), 51, 5, .null), (51, .iload_n 2, 52, 0, .null), (52, .ireturn, 53, 0, .null)]
theorem okX8_lowest : okP cX8_lowest RX8 tX8_lowest = true := by decide +kernel
def tX8_highest : List En := [(0, .ldc 121, 2, 0, .int (-1000000000)), (2, .istore_n 2, 3, 0, .null), (3, .iconst 0, 4, 0, .int (0)), (4, .istore_n 3, 5, 0, .null), (5, .iload_n 3, 6, 0, .null), (6, .aload_n 0, 7, 0, .null), (7, .invokevirtual 58, 10, 0, .null), (10, .if_icmp .ge 35, 13, 45, .null), (13, .aload_n 0, 14, 0, .null), (14, .iload_n 1, 15, 0, .null), (15, .iload_n 3, 16, 0, .null), (16, .invokevirtual 88, 19, 0, .null), (19, .ifCond .eq 18, 22, 37, .null), (22, .iload_n 3, 23, 0, .null), (23, .invokestatic 62, 26, 0, .null), (26, .iload_n 2, 27, 0, .null), (27, .if_icmp .le 10, 30, 37, .null), (30, .iload_n 3, 31, 0, .null), (31, .invokestatic 62, 34, 0, .null), (34, .goto 4, 37, 38, .null), (37, .iload_n 2, 38, 0, .null), (38, .istore_n 2, 39, 0, .null), (39, .iinc 3 1, 42, 0, .int (1)), (42, .goto (-37), 45, 5, .null), (45, .iload_n 2, 46, 0, .null), (46, .ireturn, 47, 0, .null)]
theorem okX8_highest : okP cX8_highest RX8 tX8_highest = true := by decide +kernel
def tX8_gradeOf : List En := [(0, .aload_n 0, 1, 0, .null), (1, .iload_n 1, 2, 0, .null), (2, .invokevirtual 185, 5, 0, .null), (5, .aload_n 0, 6, 0, .null), (6, .iload_n 1, 7, 0, .null), (7, .invokevirtual 188, 10, 0, .null), (10, .if_icmp .ne 11, 13, 21, .null), (13, .aload_n 0, 14, 0, .null), (14, .iload_n 1, 15, 0, .null), (15, .invokevirtual 185, 18, 0, .null), (18, .goto 5, 21, 23, .null), (21, .ldc 121, 23, 0, .int (-1000000000)), (23, .ireturn, 24, 0, .null)]
theorem okX8_gradeOf : okP cX8_gradeOf RX8 tX8_gradeOf = true := by decide +kernel
def tX8_greatest : List En := [(0, .iconst 0, 1, 0, .int (0)), (1, .istore_n 2, 2, 0, .null), (2, .iconst 0, 3, 0, .int (0)), (3, .istore_n 3, 4, 0, .null), (4, .iload_n 3, 5, 0, .null), (5, .aload_n 0, 6, 0, .null), (6, .invokevirtual 58, 9, 0, .null), (9, .if_icmp .ge 49, 12, 58, .null), (12, .aload_n 0, 13, 0, .null), (13, .iload_n 1, 14, 0, .null), (14, .iload_n 3, 15, 0, .null), (15, .invokevirtual 88, 18, 0, .null), (18, .ifCond .ge 13, 21, 31, .null), (21, .aload_n 0, 22, 0, .null), (22, .iload_n 1, 23, 0, .null), (23, .iload_n 3, 24, 0, .null), (24, .invokevirtual 88, 27, 0, .null), (27, .ineg, 28, 0, .null), (28, .goto 9, 31, 37, .null), (31, .aload_n 0, 32, 0, .null), (32, .iload_n 1, 33, 0, .null), (33, .iload_n 3, 34, 0, .null), (34, .invokevirtual 88, 37, 0, .null), (37, .istore 4, 39, 0, .null), (39, .iload 4, 41, 0, .null), (41, .iload_n 2, 42, 0, .null), (42, .if_icmp .le 8, 45, 50, .null), (45, .iload 4, 47, 0, .null), (47, .goto 4, 50, 51, .null), (50, .iload_n 2, 51, 0, .null), (51, .istore_n 2, 52, 0, .null), (52, .iinc 3 1, 55, 0, .int (1)), (55, .goto (-51), 58, 4, .null), (58, .iload_n 2, 59, 0, .null), (59, .ireturn, 60, 0, .null)]
theorem okX8_greatest : okP cX8_greatest RX8 tX8_greatest = true := by decide +kernel
def tX8_lead : List En := [(0, .iconst 0, 1, 0, .int (0)), (1, .istore_n 2, 2, 0, .null), (2, .iload_n 2, 3, 0, .null), (3, .aload_n 0, 4, 0, .null), (4, .invokevirtual 58, 7, 0, .null), (7, .if_icmp .ge 20, 10, 27, .null), (10, .aload_n 0, 11, 0, .null), (11, .iload_n 1, 12, 0, .null), (12, .iload_n 2, 13, 0, .null), (13, .invokevirtual 88, 16, 0, .null), (16, .ifCond .eq 5, 19, 21, .null), (19, .iload_n 2, 20, 0, .null), (20, .ireturn, 21, 0, .null), (21, .iinc 2 1, 24, 0, .int (1)), (24, .goto (-22), 27, 2, .null), (27, .ldc 121, 29, 0, .int (-1000000000)), (29, .ireturn, 30, 0, .null)]
theorem okX8_lead : okP cX8_lead RX8 tX8_lead = true := by decide +kernel
def tX8_directions : List En := [(0, .iconst 0, 1, 0, .int (0)), (1, .istore_n 2, 2, 0, .null), (2, .iconst 0, 3, 0, .int (0)), (3, .istore_n 3, 4, 0, .null), (4, .iload_n 3, 5, 0, .null), (5, .aload_n 0, 6, 0, .null), (6, .invokevirtual 58, 9, 0, .null), (9, .if_icmp .ge 26, 12, 35, .null), (12, .iload_n 2, 13, 0, .null), (13, .aload_n 0, 14, 0, .null), (14, .iload_n 1, 15, 0, .null), (15, .iload_n 3, 16, 0, .null), (16, .invokevirtual 88, 19, 0, .null), (19, .ifCond .eq 7, 22, 26, .null), (22, .iload_n 3, 23, 0, .null), (23, .goto 4, 26, 27, .null), (26, .iconst 0, 27, 0, .int (0)), (27, .ior, 28, 0, .null), (28, .istore_n 2, 29, 0, .null), (29, .iinc 3 1, 32, 0, .int (1)), (32, .goto (-28), 35, 4, .null), (35, .iload_n 2, 36, 0, .null), (36, .ireturn, 37, 0, .null)]
theorem okX8_directions : okP cX8_directions RX8 tX8_directions = true := by decide +kernel
def tX8_formOf : List En := [(0, .iload_n 2, 1, 0, .null), (44, .aload_n 0, 45, 0, .null), (45, .iload_n 1, 46, 0, .null), (46, .invokevirtual 122, 49, 0, .null), (49, .ireturn, 50, 0, .null), (50, .aload_n 0, 51, 0, .null), (51, .iload_n 1, 52, 0, .null), (52, .invokevirtual 191, 55, 0, .null), (55, .ireturn, 56, 0, .null), (56, .aload_n 0, 57, 0, .null), (57, .iload_n 1, 58, 0, .null), (58, .invokevirtual 185, 61, 0, .null), (61, .ireturn, 62, 0, .null), (62, .aload_n 0, 63, 0, .null), (63, .iload_n 1, 64, 0, .null), (64, .invokevirtual 188, 67, 0, .null), (67, .ireturn, 68, 0, .null), (68, .aload_n 0, 69, 0, .null), (69, .iload_n 1, 70, 0, .null), (70, .invokevirtual 194, 73, 0, .null), (73, .ireturn, 74, 0, .null), (74, .aload_n 0, 75, 0, .null), (75, .iload_n 1, 76, 0, .null), (76, .invokevirtual 197, 79, 0, .null), (79, .ireturn, 80, 0, .null), (80, .aload_n 0, 81, 0, .null), (81, .iload_n 1, 82, 0, .null), (82, .invokevirtual 197, 85, 0, .null), (85, .ldc 121, 87, 0, .int (-1000000000)), (87, .if_icmp .ne 8, 90, 95, .null), (90, .ldc 121, 92, 0, .int (-1000000000)), (92, .goto 13, 95, 105, .null), (95, .aload_n 0, 96, 0, .null), (96, .iload_n 1, 97, 0, .null), (97, .aload_n 0, 98, 0, .null), (98, .iload_n 1, 99, 0, .null), (99, .invokevirtual 197, 102, 0, .null), (102, .invokevirtual 88, 105, 0, .null), (105, .ireturn, 106, 0, .null), (106, .aload_n 0, 107, 0, .null), (107, .iload_n 1, 108, 0, .null), (108, .invokevirtual 200, 111, 0, .null), (111, .ireturn, 112, 0, .null)]
theorem okX8_formOf : okP cX8_formOf RX8 tX8_formOf = true := by decide +kernel
theorem swX8_formOf_1 : decode cX8_formOf 1 = .ok (.tableswitch 105 0 6 #[43, 49, 55, 61, 67, 73, 79], 43) := by decide +kernel
def tX8_form : List En := [(0, .aload_n 0, 1, 0, .null), (1, .iconst 0, 2, 0, .int (0)), (2, .putfield 47, 5, 0, .null), (5, .iload_n 1, 6, 0, .null), (6, .invokestatic 80, 9, 0, .null), (9, .ifCond .ne 9, 12, 18, .null), (12, .aload_n 0, 13, 0, .null), (13, .iconst 1, 14, 0, .int (1)), (14, .invokevirtual 70, 17, 0, .null), (17, .ireturn, 18, 0, .null), (18, .iload_n 2, 19, 0, .null), (19, .iconst 0, 20, 0, .int (0)), (20, .bipush 7, 22, 0, .int (7)), (22, .invokestatic 54, 25, 0, .null), (25, .ifCond .eq 12, 28, 37, .null), (28, .aload_n 0, 29, 0, .null), (29, .iload_n 1, 30, 0, .null), (30, .iload_n 2, 31, 0, .null), (31, .invokevirtual 203, 34, 0, .null), (34, .goto 8, 37, 42, .null), (37, .aload_n 0, 38, 0, .null), (38, .iconst 2, 39, 0, .int (2)), (39, .invokevirtual 70, 42, 0, .null), (42, .ireturn, 43, 0, .null)]
theorem okX8_form : okP cX8_form RX8 tX8_form = true := by decide +kernel
def tX8_innerOf : List En := [(0, .lconst 0, 1, 0, .long 0), (1, .lstore_n 3, 2, 0, .null), (2, .iconst 0, 3, 0, .int (0)), (3, .istore 5, 5, 0, .null), (5, .iload 5, 7, 0, .null), (7, .aload_n 0, 8, 0, .null), (8, .invokevirtual 58, 11, 0, .null), (11, .if_icmp .ge 37, 14, 48, .null), (14, .lload_n 3, 15, 0, .null), (15, .aload_n 0, 16, 0, .null), (16, .iload_n 1, 17, 0, .null), (17, .iload 5, 19, 0, .null), (19, .invokevirtual 88, 22, 0, .null), (22, .i2l, 23, 0, .null), (23, .aload_n 0, 24, 0, .null), (24, .iload_n 2, 25, 0, .null), (25, .iload 5, 27, 0, .null), (27, .invokevirtual 88, 30, 0, .null), (30, .i2l, 31, 0, .null), (31, .lmul, 32, 0, .null), (32, .aload_n 0, 33, 0, .null), (33, .iload 5, 35, 0, .null), (35, .invokevirtual 94, 38, 0, .null), (38, .i2l, 39, 0, .null), (39, .lmul, 40, 0, .null), (40, .ladd, 41, 0, .null), (41, .lstore_n 3, 42, 0, .null), (42, .iinc 5 1, 45, 0, .int (1)), (45, .goto (-40), 48, 5, .null), (48, .lload_n 3, 49, 0, .null), (49, .lreturn, 50, 0, .null)]
theorem okX8_innerOf : okP cX8_innerOf RX8 tX8_innerOf = true := by decide +kernel
def tX8_inner : List En := [(0, .aload_n 0, 1, 0, .null), (1, .iconst 0, 2, 0, .int (0)), (2, .putfield 47, 5, 0, .null), (5, .iload_n 1, 6, 0, .null), (6, .invokestatic 80, 9, 0, .null), (9, .ifCond .eq 19, 12, 28, .null), (12, .iload_n 2, 13, 0, .null), (13, .invokestatic 80, 16, 0, .null), (16, .ifCond .eq 12, 19, 28, .null), (19, .aload_n 0, 20, 0, .null), (20, .iload_n 1, 21, 0, .null), (21, .iload_n 2, 22, 0, .null), (22, .invokevirtual 206, 25, 0, .null), (25, .goto 9, 28, 34, .null), (28, .aload_n 0, 29, 0, .null), (29, .iconst 1, 30, 0, .int (1)), (30, .invokevirtual 70, 33, 0, .null), (33, .i2l, 34, 0, .null), (34, .lreturn, 35, 0, .null)]
theorem okX8_inner : okP cX8_inner RX8 tX8_inner = true := by decide +kernel
def tX8_vector : List En := [(0, .iload_n 2, 1, 0, .null), (1, .iload_n 3, 2, 0, .null), (2, .ishr, 3, 0, .null), (3, .iconst 1, 4, 0, .int (1)), (4, .iand, 5, 0, .null), (5, .iconst 1, 6, 0, .int (1)), (6, .if_icmp .ne 7, 9, 13, .null), (9, .lconst 0, 10, 0, .long 0), (10, .goto 23, 13, 33, .null), (13, .aload_n 0, 14, 0, .null), (14, .iload_n 1, 15, 0, .null), (15, .iload_n 2, 16, 0, .null), (16, .iconst 1, 17, 0, .int (1)), (17, .iload_n 3, 18, 0, .null), (18, .ishl, 19, 0, .null), (19, .ior, 20, 0, .null), (20, .invokevirtual 88, 23, 0, .null), (23, .i2l, 24, 0, .null), (24, .iload_n 2, 25, 0, .null), (25, .iconst 1, 26, 0, .int (1)), (26, .iload_n 3, 27, 0, .null), (27, .ishl, 28, 0, .null), (28, .invokestatic 91, 31, 0, .null), (31, .i2l, 32, 0, .null), (32, .lmul, 33, 0, .null), (33, .lreturn, 34, 0, .null)]
theorem okX8_vector : okP cX8_vector RX8 tX8_vector = true := by decide +kernel
def tX8_isResultEmpty : List En := [(0, .iconst 0, 1, 0, .int (0)), (1, .istore_n 1, 2, 0, .null), (2, .iload_n 1, 3, 0, .null), (3, .aload_n 0, 4, 0, .null), (4, .invokevirtual 58, 7, 0, .null), (7, .if_icmp .ge 22, 10, 29, .null), (10, .aload_n 0, 11, 0, .null), (11, .getfield 32, 14, 0, .null), (14, .iload_n 1, 15, 0, .null), (15, .laload, 16, 0, .null), (16, .lconst 0, 17, 0, .long 0), (17, .lcmp, 18, 0, .null), (18, .ifCond .eq 5, 21, 23, .null), (21, .iconst 0, 22, 0, .int (0)), (22, .ireturn, 23, 0, .null), (23, .iinc 1 1, 26, 0, .int (1)), (26, .goto (-24), 29, 2, .null), (29, .iconst 1, 30, 0, .int (1)), (30, .ireturn, 31, 0, .null)]
theorem okX8_isResultEmpty : okP cX8_isResultEmpty RX8 tX8_isResultEmpty = true := by decide +kernel
def tX8_isPure : List En := [(0, .iconst 1, 1, 0, .int (1)), (1, .istore_n 3, 2, 0, .null), (2, .iconst 0, 3, 0, .int (0)), (3, .istore 4, 5, 0, .null), (5, .iload 4, 7, 0, .null), (7, .aload_n 0, 8, 0, .null), (8, .invokevirtual 58, 11, 0, .null), (11, .if_icmp .ge 105, 14, 116, .null), (14, .iload_n 3, 15, 0, .null), (15, .ifCond .eq 101, 18, 116, .null), (18, .iload_n 2, 19, 0, .null), (19, .ifCond .le 91, 22, 110, .null), (22, .iload 4, 24, 0, .null), (24, .invokestatic 62, 27, 0, .null), (27, .iload_n 2, 28, 0, .null), (28, .iconst 1, 29, 0, .int (1)), (29, .isub, 30, 0, .null), (30, .if_icmp .ne 80, 33, 110, .null), (33, .aload_n 0, 34, 0, .null), (34, .iload_n 1, 35, 0, .null), (35, .iload_n 1, 36, 0, .null), (36, .invokevirtual 104, 39, 0, .null), (39, .iconst 0, 40, 0, .int (0)), (40, .istore 5, 42, 0, .null), (42, .iload 5, 44, 0, .null), (44, .bipush 32, 46, 0, .int (32)), (46, .if_icmp .ge 17, 49, 63, .null), (49, .aload_n 0, 50, 0, .null), (50, .getfield 29, 53, 0, .null), (53, .iload 5, 55, 0, .null), (55, .lconst 0, 56, 0, .long 0), (56, .lastore, 57, 0, .null), (57, .iinc 5 1, 60, 0, .int (1)), (60, .goto (-18), 63, 42, .null), (63, .iconst 0, 64, 0, .int (0)), (64, .istore 5, 66, 0, .null), (66, .iload 5, 68, 0, .null), (68, .aload_n 0, 69, 0, .null), (69, .getfield 7, 72, 0, .null), (72, .iconst 0, 73, 0, .int (0)), (73, .iaload, 74, 0, .null), (74, .if_icmp .ge 27, 77, 101, .null), (77, .aload_n 0, 78, 0, .null), (78, .getfield 29, 81, 0, .null), (81, .iconst 1, 82, 0, .int (1)), (82, .iload 5, 84, 0, .null), (84, .ishl, 85, 0, .null), (85, .aload_n 0, 86, 0, .null), (86, .iload_n 1, 87, 0, .null), (87, .iload 4, 89, 0, .null), (89, .iload 5, 91, 0, .null), (91, .invokevirtual 210, 94, 0, .null), (94, .lastore, 95, 0, .null), (95, .iinc 5 1, 98, 0, .int (1)), (98, .goto (-32), 101, 66, .null), (101, .aload_n 0, 102, 0, .null), (102, .invokevirtual 108, 105, 0, .null), (105, .aload_n 0, 106, 0, .null), (106, .invokevirtual 214, 109, 0, .null), (109, .istore_n 3, 110, 0, .null), (110, .iinc 4 1, 113, 0, .int (1)), (113, .goto (-108), 116, 5, .null), (116, .iload_n 3, 117, 0, .null), (117, .ireturn, 118, 0, .null)]
theorem okX8_isPure : okP cX8_isPure RX8 tX8_isPure = true := by decide +kernel
def tX8_layLines : List En := [(0, .iconst 0, 1, 0, .int (0)), (1, .istore_n 2, 2, 0, .null), (2, .iload_n 2, 3, 0, .null), (3, .bipush 32, 5, 0, .int (32)), (5, .if_icmp .ge 92, 8, 97, .null), (8, .iconst 0, 9, 0, .int (0)), (9, .istore_n 3, 10, 0, .null), (10, .iload_n 3, 11, 0, .null), (11, .iconst 5, 12, 0, .int (5)), (12, .if_icmp .ge 79, 15, 91, .null), (15, .iload_n 2, 16, 0, .null), (16, .aload_n 0, 17, 0, .null), (17, .invokevirtual 58, 20, 0, .null), (20, .if_icmp .ge 16, 23, 36, .null), (23, .iload_n 2, 24, 0, .null), (24, .iload_n 3, 25, 0, .null), (25, .ishr, 26, 0, .null), (26, .iconst 1, 27, 0, .int (1)), (27, .iand, 28, 0, .null), (28, .iconst 1, 29, 0, .int (1)), (29, .if_icmp .ne 7, 32, 36, .null), (32, .iconst 1, 33, 0, .int (1)), (33, .goto 4, 36, 37, .null), (36, .iconst 0, 37, 0, .int (0)), (37, .istore 4, 39, 0, .null), (39, .iload_n 2, 40, 0, .null), (40, .iconst 1, 41, 0, .int (1)), (41, .iload_n 3, 42, 0, .null), (42, .ishl, 43, 0, .null), (43, .iconst (-1), 44, 0, .int (-1)), (44, .ixor, 45, 0, .null), (45, .iand, 46, 0, .null), (46, .istore 5, 48, 0, .null), (48, .aload_n 0, 49, 0, .null), (49, .getfield 38, 52, 0, .null), (52, .iconst 5, 53, 0, .int (5)), (53, .iload_n 2, 54, 0, .null), (54, .imul, 55, 0, .null), (55, .iload_n 3, 56, 0, .null), (56, .iadd, 57, 0, .null), (57, .iload 4, 59, 0, .null), (59, .ifCond .eq 24, 62, 83, .null), (62, .aload_n 0, 63, 0, .null), (63, .iload_n 1, 64, 0, .null), (64, .iload 5, 66, 0, .null), (66, .invokevirtual 88, 69, 0, .null), (69, .i2l, 70, 0, .null), (70, .iconst 1, 71, 0, .int (1)), (71, .iload_n 3, 72, 0, .null), (72, .ishl, 73, 0, .null), (73, .iload 5, 75, 0, .null), (75, .invokestatic 91, 78, 0, .null), (78, .i2l, 79, 0, .null), (79, .lmul, 80, 0, .null), (80, .goto 4, 83, 84, .null), (83, .lconst 0, 84, 0, .long 0), (84, .lastore, 85, 0, .null), (85, .iinc 3 1, 88, 0, .int (1)), (88, .goto (-78), 91, 10, .null), (91, .iinc 2 1, 94, 0, .int (1)), (94, .goto (-92), 97, 2, .null), (97, .return_, 98, 0, .null)]
theorem okX8_layLines : okP cX8_layLines RX8 tX8_layLines = true := by decide +kernel
def tX8_exchange : List En := [(0, .iconst 0, 1, 0, .int (0)), (1, .istore_n 3, 2, 0, .null), (2, .iload_n 3, 3, 0, .null), (3, .iconst 5, 4, 0, .int (5)), (4, .if_icmp .ge 53, 7, 57, .null), (7, .aload_n 0, 8, 0, .null), (8, .getfield 38, 11, 0, .null), (11, .iconst 5, 12, 0, .int (5)), (12, .iload_n 1, 13, 0, .null), (13, .imul, 14, 0, .null), (14, .iload_n 3, 15, 0, .null), (15, .iadd, 16, 0, .null), (16, .laload, 17, 0, .null), (17, .lstore 4, 19, 0, .null), (19, .aload_n 0, 20, 0, .null), (20, .getfield 38, 23, 0, .null), (23, .iconst 5, 24, 0, .int (5)), (24, .iload_n 1, 25, 0, .null), (25, .imul, 26, 0, .null), (26, .iload_n 3, 27, 0, .null), (27, .iadd, 28, 0, .null), (28, .aload_n 0, 29, 0, .null), (29, .getfield 38, 32, 0, .null), (32, .iconst 5, 33, 0, .int (5)), (33, .iload_n 2, 34, 0, .null), (34, .imul, 35, 0, .null), (35, .iload_n 3, 36, 0, .null), (36, .iadd, 37, 0, .null), (37, .laload, 38, 0, .null), (38, .lastore, 39, 0, .null), (39, .aload_n 0, 40, 0, .null), (40, .getfield 38, 43, 0, .null), (43, .iconst 5, 44, 0, .int (5)), (44, .iload_n 2, 45, 0, .null), (45, .imul, 46, 0, .null), (46, .iload_n 3, 47, 0, .null), (47, .iadd, 48, 0, .null), (48, .lload 4, 50, 0, .null), (50, .lastore, 51, 0, .null), (51, .iinc 3 1, 54, 0, .int (1)), (54, .goto (-52), 57, 2, .null), (57, .return_, 58, 0, .null)]
theorem okX8_exchange : okP cX8_exchange RX8 tX8_exchange = true := by decide +kernel
def tX8_clearColumn : List En := [(0, .aload_n 0, 1, 0, .null), (1, .getfield 38, 4, 0, .null), (4, .iconst 5, 5, 0, .int (5)), (5, .aload_n 0, 6, 0, .null), (6, .getfield 218, 9, 0, .null), (9, .imul, 10, 0, .null), (10, .iload_n 1, 11, 0, .null), (11, .iadd, 12, 0, .null), (12, .laload, 13, 0, .null), (13, .lstore 4, 15, 0, .null), (15, .iconst 0, 16, 0, .int (0)), (16, .istore 6, 18, 0, .null), (18, .iload 6, 20, 0, .null), (20, .bipush 32, 22, 0, .int (32)), (22, .if_icmp .ge 93, 25, 115, .null), (25, .aload_n 0, 26, 0, .null), (26, .getfield 38, 29, 0, .null), (29, .iconst 5, 30, 0, .int (5)), (30, .iload 6, 32, 0, .null), (32, .imul, 33, 0, .null), (33, .iload_n 1, 34, 0, .null), (34, .iadd, 35, 0, .null), (35, .laload, 36, 0, .null), (36, .lstore 7, 38, 0, .null), (38, .iconst 0, 39, 0, .int (0)), (39, .istore 9, 41, 0, .null), (41, .iload 9, 43, 0, .null), (43, .iconst 5, 44, 0, .int (5)), (44, .if_icmp .ge 65, 47, 109, .null), (47, .iload 6, 49, 0, .null), (49, .aload_n 0, 50, 0, .null), (50, .getfield 218, 53, 0, .null), (53, .if_icmp .eq 56, 56, 109, .null), (56, .aload_n 0, 57, 0, .null), (57, .getfield 38, 60, 0, .null), (60, .iconst 5, 61, 0, .int (5)), (61, .iload 6, 63, 0, .null), (63, .imul, 64, 0, .null), (64, .iload 9, 66, 0, .null), (66, .iadd, 67, 0, .null), (67, .lload 4, 69, 0, .null), (69, .aload_n 0, 70, 0, .null), (70, .getfield 38, 73, 0, .null), (73, .iconst 5, 74, 0, .int (5)), (74, .iload 6, 76, 0, .null), (76, .imul, 77, 0, .null), (77, .iload 9, 79, 0, .null), (79, .iadd, 80, 0, .null), (80, .laload, 81, 0, .null), (81, .lmul, 82, 0, .null), (82, .lload 7, 84, 0, .null), (84, .aload_n 0, 85, 0, .null), (85, .getfield 38, 88, 0, .null), (88, .iconst 5, 89, 0, .int (5)), (89, .aload_n 0, 90, 0, .null), (90, .getfield 218, 93, 0, .null), (93, .imul, 94, 0, .null), (94, .iload 9, 96, 0, .null), (96, .iadd, 97, 0, .null), (97, .laload, 98, 0, .null), (98, .lmul, 99, 0, .null), (99, .lsub, 100, 0, .null), (100, .lload_n 2, 101, 0, .null), (101, .ldiv, 102, 0, .null), (102, .lastore, 103, 0, .null), (103, .iinc 9 1, 106, 0, .int (1)), (106, .goto (-65), 109, 41, .null), (109, .iinc 6 1, 112, 0, .int (1)), (112, .goto (-94), 115, 18, .null), (115, .aload_n 0, 116, 0, .null), (116, .lload 4, 118, 0, .null), (118, .putfield 221, 121, 0, .null), (121, .return_, 122, 0, .null)]
theorem okX8_clearColumn : okP cX8_clearColumn RX8 tX8_clearColumn = true := by decide +kernel
def tX8_solve : List En := [(0, .aload_n 0, 1, 0, .null), (1, .iload_n 1, 2, 0, .null), (2, .invokevirtual 225, 5, 0, .null), (5, .aload_n 0, 6, 0, .null), (6, .iconst 0, 7, 0, .int (0)), (7, .putfield 218, 10, 0, .null), (10, .aload_n 0, 11, 0, .null), (11, .lconst 1, 12, 0, .long 1), (12, .putfield 221, 15, 0, .null), (15, .aload_n 0, 16, 0, .null), (16, .getfield 7, 19, 0, .null), (19, .iconst 0, 20, 0, .int (0)), (20, .iaload, 21, 0, .null), (21, .iconst 1, 22, 0, .int (1)), (22, .isub, 23, 0, .null), (23, .istore_n 2, 24, 0, .null), (24, .iload_n 2, 25, 0, .null), (25, .ifCond .lt 93, 28, 118, .null), (28, .aload_n 0, 29, 0, .null), (29, .getfield 218, 32, 0, .null), (32, .istore_n 3, 33, 0, .null), (33, .iload_n 3, 34, 0, .null), (34, .bipush 32, 36, 0, .int (32)), (36, .if_icmp .ge 24, 39, 60, .null), (39, .aload_n 0, 40, 0, .null), (40, .getfield 38, 43, 0, .null), (43, .iconst 5, 44, 0, .int (5)), (44, .iload_n 3, 45, 0, .null), (45, .imul, 46, 0, .null), (46, .iload_n 2, 47, 0, .null), (47, .iadd, 48, 0, .null), (48, .laload, 49, 0, .null), (49, .lconst 0, 50, 0, .long 0), (50, .lcmp, 51, 0, .null), (51, .ifCond .ne 9, 54, 60, .null), (54, .iinc 3 1, 57, 0, .int (1)), (57, .goto (-24), 60, 33, .null), (60, .aload_n 0, 61, 0, .null), (61, .getfield 41, 64, 0, .null), (64, .iload_n 2, 65, 0, .null), (65, .ldc 121, 67, 0, .int (-1000000000)), (67, .iastore, 68, 0, .null), (68, .iload_n 3, 69, 0, .null), (69, .bipush 32, 71, 0, .int (32)), (71, .if_icmp .ge 41, 74, 112, .null), (74, .aload_n 0, 75, 0, .null), (75, .iload_n 3, 76, 0, .null), (76, .aload_n 0, 77, 0, .null), (77, .getfield 218, 80, 0, .null), (80, .invokevirtual 228, 83, 0, .null), (83, .aload_n 0, 84, 0, .null), (84, .iload_n 2, 85, 0, .null), (85, .aload_n 0, 86, 0, .null), (86, .getfield 221, 89, 0, .null), (89, .invokevirtual 231, 92, 0, .null), (92, .aload_n 0, 93, 0, .null), (93, .getfield 41, 96, 0, .null), (96, .iload_n 2, 97, 0, .null), (97, .aload_n 0, 98, 0, .null), (98, .getfield 218, 101, 0, .null), (101, .iastore, 102, 0, .null), (102, .aload_n 0, 103, 0, .null), (103, .dup, 104, 0, .null), (104, .getfield 218, 107, 0, .null), (107, .iconst 1, 108, 0, .int (1)), (108, .iadd, 109, 0, .null), (109, .putfield 218, 112, 0, .null), (112, .iinc 2 (-1), 115, 0, .int (-1)), (115, .goto (-91), 118, 24, .null), (118, .return_, 119, 0, .null)]
theorem okX8_solve : okP cX8_solve RX8 tX8_solve = true := by decide +kernel
def tX8_isAnnihilatorTold : List En := [(0, .aload_n 0, 1, 0, .null), (1, .iload_n 1, 2, 0, .null), (2, .invokevirtual 194, 5, 0, .null), (5, .bipush 60, 7, 0, .int (60)), (7, .if_icmp .gt 7, 10, 14, .null), (10, .iconst 1, 11, 0, .int (1)), (11, .goto 4, 14, 15, .null), (14, .iconst 0, 15, 0, .int (0)), (15, .ireturn, 16, 0, .null)]
theorem okX8_isAnnihilatorTold : okP cX8_isAnnihilatorTold RX8 tX8_isAnnihilatorTold = true := by decide +kernel
def tX8_annihilatorOf : List En := [(0, .aload_n 0, 1, 0, .null), (1, .iload_n 1, 2, 0, .null), (2, .invokevirtual 235, 5, 0, .null), (5, .ifCond .ne 6, 8, 11, .null), (8, .ldc 121, 10, 0, .int (-1000000000)), (10, .ireturn, 11, 0, .null), (11, .aload_n 0, 12, 0, .null), (12, .iload_n 1, 13, 0, .null), (13, .invokevirtual 238, 16, 0, .null), (16, .aload_n 0, 17, 0, .null), (17, .getfield 7, 20, 0, .null), (20, .iconst 0, 21, 0, .int (0)), (21, .iaload, 22, 0, .null), (22, .aload_n 0, 23, 0, .null), (23, .getfield 218, 26, 0, .null), (26, .isub, 27, 0, .null), (27, .ireturn, 28, 0, .null)]
theorem okX8_annihilatorOf : okP cX8_annihilatorOf RX8 tX8_annihilatorOf = true := by decide +kernel
def tX8_divisor : List En := [(0, .lload_n 0, 1, 0, .null), (1, .lconst 0, 2, 0, .long 0), (2, .lcmp, 3, 0, .null), (3, .ifCond .ge 8, 6, 11, .null), (6, .lload_n 0, 7, 0, .null), (7, .lneg, 8, 0, .null), (8, .goto 4, 11, 12, .null), (11, .lload_n 0, 12, 0, .null), (12, .lstore 4, 14, 0, .null), (14, .lload_n 2, 15, 0, .null), (15, .lconst 0, 16, 0, .long 0), (16, .lcmp, 17, 0, .null), (17, .ifCond .ge 8, 20, 25, .null), (20, .lload_n 2, 21, 0, .null), (21, .lneg, 22, 0, .null), (22, .goto 4, 25, 26, .null), (25, .lload_n 2, 26, 0, .null), (26, .lstore 6, 28, 0, .null), (28, .lload 6, 30, 0, .null), (30, .lconst 0, 31, 0, .long 0), (31, .lcmp, 32, 0, .null), (32, .ifCond .eq 21, 35, 53, .null), (35, .lload 4, 37, 0, .null), (37, .lload 6, 39, 0, .null), (39, .lrem, 40, 0, .null), (40, .lstore 8, 42, 0, .null), (42, .lload 6, 44, 0, .null), (44, .lstore 4, 46, 0, .null), (46, .lload 8, 48, 0, .null), (48, .lstore 6, 50, 0, .null), (50, .goto (-22), 53, 28, .null), (53, .lload 4, 55, 0, .null), (55, .lreturn, 56, 0, .null)]
theorem okX8_divisor : okP cX8_divisor RX8 tX8_divisor = true := by decide +kernel
def tX8_headOf : List En := [(0, .iload_n 1, 1, 0, .null), (1, .istore_n 2, 2, 0, .null), (2, .iconst 0, 3, 0, .int (0)), (3, .istore_n 3, 4, 0, .null), (4, .iload_n 3, 5, 0, .null), (5, .aload_n 0, 6, 0, .null), (6, .getfield 7, 9, 0, .null), (9, .iconst 0, 10, 0, .int (0)), (10, .iaload, 11, 0, .null), (11, .if_icmp .ge 29, 14, 40, .null), (14, .aload_n 0, 15, 0, .null), (15, .getfield 41, 18, 0, .null), (18, .iload_n 3, 19, 0, .null), (19, .iaload, 20, 0, .null), (20, .ldc 121, 22, 0, .int (-1000000000)), (22, .if_icmp .ne 12, 25, 34, .null), (25, .iload_n 2, 26, 0, .null), (26, .ifCond .ne 5, 29, 31, .null), (29, .iload_n 3, 30, 0, .null), (30, .ireturn, 31, 0, .null), (31, .iinc 2 (-1), 34, 0, .int (-1)), (34, .iinc 3 1, 37, 0, .int (1)), (37, .goto (-33), 40, 4, .null), (40, .ldc 121, 42, 0, .int (-1000000000)), (42, .ireturn, 43, 0, .null)]
theorem okX8_headOf : okP cX8_headOf RX8 tX8_headOf = true := by decide +kernel
def tX8_rawOf : List En := [(0, .iload_n 2, 1, 0, .null), (1, .iload_n 1, 2, 0, .null), (2, .if_icmp .ne 8, 5, 10, .null), (5, .aload_n 0, 6, 0, .null), (6, .getfield 221, 9, 0, .null), (9, .lreturn, 10, 0, .null), (10, .aload_n 0, 11, 0, .null), (11, .getfield 41, 14, 0, .null), (14, .iload_n 2, 15, 0, .null), (15, .iaload, 16, 0, .null), (16, .ldc 121, 18, 0, .int (-1000000000)), (18, .if_icmp .ne 7, 21, 25, .null), (21, .lconst 0, 22, 0, .long 0), (22, .goto 19, 25, 41, .null), (25, .aload_n 0, 26, 0, .null), (26, .getfield 38, 29, 0, .null), (29, .iconst 5, 30, 0, .int (5)), (30, .aload_n 0, 31, 0, .null), (31, .getfield 41, 34, 0, .null), (34, .iload_n 2, 35, 0, .null), (35, .iaload, 36, 0, .null), (36, .imul, 37, 0, .null), (37, .iload_n 1, 38, 0, .null), (38, .iadd, 39, 0, .null), (39, .laload, 40, 0, .null), (40, .lneg, 41, 0, .null), (41, .lreturn, 42, 0, .null)]
theorem okX8_rawOf : okP cX8_rawOf RX8 tX8_rawOf = true := by decide +kernel
def tX8_basisOf : List En := [(0, .aload_n 0, 1, 0, .null), (1, .iload_n 1, 2, 0, .null), (2, .invokevirtual 241, 5, 0, .null), (5, .istore_n 3, 6, 0, .null), (6, .iload_n 3, 7, 0, .null), (7, .ldc 121, 9, 0, .int (-1000000000)), (9, .if_icmp .ne 6, 12, 15, .null), (12, .ldc 121, 14, 0, .int (-1000000000)), (14, .ireturn, 15, 0, .null), (15, .lconst 0, 16, 0, .long 0), (16, .lstore 4, 18, 0, .null), (18, .iconst 0, 19, 0, .int (0)), (19, .istore 6, 21, 0, .null), (21, .iload 6, 23, 0, .null), (23, .aload_n 0, 24, 0, .null), (24, .getfield 7, 27, 0, .null), (27, .iconst 0, 28, 0, .int (0)), (28, .iaload, 29, 0, .null), (29, .if_icmp .ge 23, 32, 52, .null), (32, .lload 4, 34, 0, .null), (34, .aload_n 0, 35, 0, .null), (35, .iload_n 3, 36, 0, .null), (36, .iload 6, 38, 0, .null), (38, .invokevirtual 244, 41, 0, .null), (41, .invokestatic 247, 44, 0, .null), (44, .lstore 4, 46, 0, .null), (46, .iinc 6 1, 49, 0, .int (1)), (49, .goto (-28), 52, 21, .null), (52, .aload_n 0, 53, 0, .null), (53, .getfield 221, 56, 0, .null), (56, .lconst 0, 57, 0, .long 0), (57, .lcmp, 58, 0, .null), (58, .ifCond .ge 9, 61, 67, .null), (61, .lload 4, 63, 0, .null), (63, .lneg, 64, 0, .null), (64, .goto 5, 67, 69, .null), (67, .lload 4, 69, 0, .null), (69, .lstore 4, 71, 0, .null), (71, .aload_n 0, 72, 0, .null), (72, .iload_n 3, 73, 0, .null), (73, .iload_n 2, 74, 0, .null), (74, .invokevirtual 244, 77, 0, .null), (77, .lload 4, 79, 0, .null), (79, .ldiv, 80, 0, .null), (80, .l2i, 81, 0, .null), (81, .ireturn, 82, 0, .null)]
theorem okX8_basisOf : okP cX8_basisOf RX8 tX8_basisOf = true := by decide +kernel
def tX8_decomposableOf : List En := [(0, .aload_n 0, 1, 0, .null), (1, .iload_n 1, 2, 0, .null), (2, .invokevirtual 191, 5, 0, .null), (5, .istore_n 3, 6, 0, .null), (6, .iload_n 3, 7, 0, .null), (7, .ldc 121, 9, 0, .int (-1000000000)), (9, .if_icmp .ne 6, 12, 15, .null), (12, .ldc 121, 14, 0, .int (-1000000000)), (14, .ireturn, 15, 0, .null), (15, .iload_n 2, 16, 0, .null), (16, .ifCond .ne 18, 19, 34, .null), (19, .aload_n 0, 20, 0, .null), (20, .iload_n 1, 21, 0, .null), (21, .iload_n 3, 22, 0, .null), (22, .invokevirtual 251, 25, 0, .null), (25, .ifCond .eq 7, 28, 32, .null), (28, .iconst 1, 29, 0, .int (1)), (29, .goto 4, 32, 33, .null), (32, .iconst 0, 33, 0, .int (0)), (33, .ireturn, 34, 0, .null), (34, .aload_n 0, 35, 0, .null), (35, .iload_n 1, 36, 0, .null), (36, .invokevirtual 255, 39, 0, .null), (39, .istore 4, 41, 0, .null), (41, .iload 4, 43, 0, .null), (43, .ldc 121, 45, 0, .int (-1000000000)), (45, .if_icmp .ne 8, 48, 53, .null), (48, .ldc 121, 50, 0, .int (-1000000000)), (50, .goto 14, 53, 64, .null), (53, .iload 4, 55, 0, .null), (55, .iload_n 3, 56, 0, .null), (56, .if_icmp .ne 7, 59, 63, .null), (59, .iconst 1, 60, 0, .int (1)), (60, .goto 4, 63, 64, .null), (63, .iconst 0, 64, 0, .int (0)), (64, .ireturn, 65, 0, .null)]
theorem okX8_decomposableOf : okP cX8_decomposableOf RX8 tX8_decomposableOf = true := by decide +kernel
def tX8_decomposable : List En := [(0, .aload_n 0, 1, 0, .null), (1, .iconst 0, 2, 0, .int (0)), (2, .putfield 47, 5, 0, .null), (5, .iload_n 1, 6, 0, .null), (6, .invokestatic 80, 9, 0, .null), (9, .ifCond .ne 9, 12, 18, .null), (12, .aload_n 0, 13, 0, .null), (13, .iconst 1, 14, 0, .int (1)), (14, .invokevirtual 70, 17, 0, .null), (17, .ireturn, 18, 0, .null), (18, .iload_n 2, 19, 0, .null), (19, .iconst 0, 20, 0, .int (0)), (20, .iconst 1, 21, 0, .int (1)), (21, .invokestatic 54, 24, 0, .null), (24, .ifCond .eq 12, 27, 36, .null), (27, .aload_n 0, 28, 0, .null), (28, .iload_n 1, 29, 0, .null), (29, .iload_n 2, 30, 0, .null), (30, .invokevirtual 258, 33, 0, .null), (33, .goto 8, 36, 41, .null), (36, .aload_n 0, 37, 0, .null), (37, .iconst 2, 38, 0, .int (2)), (38, .invokevirtual 70, 41, 0, .null), (41, .ireturn, 42, 0, .null)]
theorem okX8_decomposable : okP cX8_decomposable RX8 tX8_decomposable = true := by decide +kernel
def tX8_factors : List En := [(0, .aload_n 0, 1, 0, .null), (1, .iload_n 1, 2, 0, .null), (2, .invokevirtual 191, 5, 0, .null), (5, .istore_n 2, 6, 0, .null), (6, .iload_n 2, 7, 0, .null), (7, .ldc 121, 9, 0, .int (-1000000000)), (9, .if_icmp .eq 12, 12, 21, .null), (12, .aload_n 0, 13, 0, .null), (13, .iload_n 1, 14, 0, .null), (14, .iload_n 2, 15, 0, .null), (15, .invokevirtual 251, 18, 0, .null), (18, .ifCond .ne 7, 21, 25, .null), (21, .iconst 0, 22, 0, .int (0)), (22, .goto 4, 25, 26, .null), (25, .iload_n 2, 26, 0, .null), (26, .ireturn, 27, 0, .null)]
theorem okX8_factors : okP cX8_factors RX8 tX8_factors = true := by decide +kernel
def tX8_factorOf : List En := [(0, .aload_n 0, 1, 0, .null), (1, .iload_n 1, 2, 0, .null), (2, .invokevirtual 197, 5, 0, .null), (5, .istore 4, 7, 0, .null), (7, .iload_n 2, 8, 0, .null), (8, .istore 5, 10, 0, .null), (10, .iconst 0, 11, 0, .int (0)), (11, .istore 6, 13, 0, .null), (13, .iload 4, 15, 0, .null), (15, .iload 6, 17, 0, .null), (17, .ishr, 18, 0, .null), (18, .iconst 1, 19, 0, .int (1)), (19, .iand, 20, 0, .null), (20, .ifCond .eq 8, 23, 28, .null), (23, .iload 5, 25, 0, .null), (25, .ifCond .le 21, 28, 46, .null), (28, .iload 5, 30, 0, .null), (30, .iload 4, 32, 0, .null), (32, .iload 6, 34, 0, .null), (34, .ishr, 35, 0, .null), (35, .iconst 1, 36, 0, .int (1)), (36, .iand, 37, 0, .null), (37, .isub, 38, 0, .null), (38, .istore 5, 40, 0, .null), (40, .iinc 6 1, 43, 0, .int (1)), (43, .goto (-30), 46, 13, .null), (46, .iload 4, 48, 0, .null), (48, .iload 6, 50, 0, .null), (50, .iconst 1, 51, 0, .int (1)), (51, .iadd, 52, 0, .null), (52, .ishr, 53, 0, .null), (53, .invokestatic 62, 56, 0, .null), (56, .istore 7, 58, 0, .null), (58, .aload_n 0, 59, 0, .null), (59, .iload_n 1, 60, 0, .null), (60, .iload 4, 62, 0, .null), (62, .iconst 1, 63, 0, .int (1)), (63, .iload 6, 65, 0, .null), (65, .ishl, 66, 0, .null), (66, .iconst (-1), 67, 0, .int (-1)), (67, .ixor, 68, 0, .null), (68, .iand, 69, 0, .null), (69, .iload_n 3, 70, 0, .null), (70, .invokevirtual 210, 73, 0, .null), (73, .lstore 8, 75, 0, .null), (75, .iload 7, 77, 0, .null), (77, .iconst 2, 78, 0, .int (2)), (78, .irem, 79, 0, .null), (79, .iconst 1, 80, 0, .int (1)), (80, .if_icmp .ne 9, 83, 89, .null), (83, .lload 8, 85, 0, .null), (85, .lneg, 86, 0, .null), (86, .goto 5, 89, 91, .null), (89, .lload 8, 91, 0, .null), (91, .l2i, 92, 0, .null), (92, .ireturn, 93, 0, .null)]
theorem okX8_factorOf : okP cX8_factorOf RX8 tX8_factorOf = true := by decide +kernel
def tX8_factor : List En := [(0, .aload_n 0, 1, 0, .null), (1, .iconst 0, 2, 0, .int (0)), (2, .putfield 47, 5, 0, .null), (5, .iload_n 1, 6, 0, .null), (6, .invokestatic 80, 9, 0, .null), (9, .ifCond .eq 11, 12, 20, .null), (12, .aload_n 0, 13, 0, .null), (13, .iload_n 3, 14, 0, .null), (14, .invokevirtual 76, 17, 0, .null), (17, .ifCond .ne 9, 20, 26, .null), (20, .aload_n 0, 21, 0, .null), (21, .iconst 1, 22, 0, .int (1)), (22, .invokevirtual 70, 25, 0, .null), (25, .ireturn, 26, 0, .null), (26, .iload_n 2, 27, 0, .null), (27, .iconst 0, 28, 0, .int (0)), (28, .iconst 4, 29, 0, .int (4)), (29, .invokestatic 54, 32, 0, .null), (32, .ifCond .ne 9, 35, 41, .null), (35, .aload_n 0, 36, 0, .null), (36, .iconst 2, 37, 0, .int (2)), (37, .invokevirtual 70, 40, 0, .null), (40, .ireturn, 41, 0, .null), (41, .iload_n 2, 42, 0, .null), (42, .aload_n 0, 43, 0, .null), (43, .iload_n 1, 44, 0, .null), (44, .invokevirtual 261, 47, 0, .null), (47, .if_icmp .ge 13, 50, 60, .null), (50, .aload_n 0, 51, 0, .null), (51, .iload_n 1, 52, 0, .null), (52, .iload_n 2, 53, 0, .null), (53, .iload_n 3, 54, 0, .null), (54, .invokevirtual 264, 57, 0, .null), (57, .goto 5, 60, 62, .null), (60, .ldc 121, 62, 0, .int (-1000000000)), (62, .ireturn, 63, 0, .null)]
theorem okX8_factor : okP cX8_factor RX8 tX8_factor = true := by decide +kernel
def tX8_annihilator : List En := [(0, .aload_n 0, 1, 0, .null), (1, .iconst 0, 2, 0, .int (0)), (2, .putfield 47, 5, 0, .null), (5, .iload_n 1, 6, 0, .null), (6, .invokestatic 80, 9, 0, .null), (9, .ifCond .eq 11, 12, 20, .null), (12, .aload_n 0, 13, 0, .null), (13, .iload_n 1, 14, 0, .null), (14, .invokevirtual 255, 17, 0, .null), (17, .goto 8, 20, 25, .null), (20, .aload_n 0, 21, 0, .null), (21, .iconst 1, 22, 0, .int (1)), (22, .invokevirtual 70, 25, 0, .null), (25, .ireturn, 26, 0, .null)]
theorem okX8_annihilator : okP cX8_annihilator RX8 tX8_annihilator = true := by decide +kernel
def tX8_basis : List En := [(0, .aload_n 0, 1, 0, .null), (1, .iconst 0, 2, 0, .int (0)), (2, .putfield 47, 5, 0, .null), (5, .iload_n 1, 6, 0, .null), (6, .invokestatic 80, 9, 0, .null), (9, .ifCond .eq 11, 12, 20, .null), (12, .aload_n 0, 13, 0, .null), (13, .iload_n 3, 14, 0, .null), (14, .invokevirtual 76, 17, 0, .null), (17, .ifCond .ne 9, 20, 26, .null), (20, .aload_n 0, 21, 0, .null), (21, .iconst 1, 22, 0, .int (1)), (22, .invokevirtual 70, 25, 0, .null), (25, .ireturn, 26, 0, .null), (26, .iload_n 2, 27, 0, .null), (27, .iconst 0, 28, 0, .int (0)), (28, .iconst 4, 29, 0, .int (4)), (29, .invokestatic 54, 32, 0, .null), (32, .ifCond .ne 9, 35, 41, .null), (35, .aload_n 0, 36, 0, .null), (36, .iconst 2, 37, 0, .int (2)), (37, .invokevirtual 70, 40, 0, .null), (40, .ireturn, 41, 0, .null), (41, .aload_n 0, 42, 0, .null), (42, .iload_n 1, 43, 0, .null), (43, .invokevirtual 255, 46, 0, .null), (46, .ldc 121, 48, 0, .int (-1000000000)), (48, .if_icmp .ne 8, 51, 56, .null), (51, .ldc 121, 53, 0, .int (-1000000000)), (53, .goto 9, 56, 62, .null), (56, .aload_n 0, 57, 0, .null), (57, .iload_n 2, 58, 0, .null), (58, .iload_n 3, 59, 0, .null), (59, .invokevirtual 267, 62, 0, .null), (62, .ireturn, 63, 0, .null)]
theorem okX8_basis : okP cX8_basis RX8 tX8_basis = true := by decide +kernel
def tX8_refusedOf : List En := [(0, .aload_n 0, 1, 0, .null), (1, .iload_n 1, 2, 0, .null), (2, .iload_n 2, 3, 0, .null), (3, .iload_n 3, 4, 0, .null), (4, .invokevirtual 131, 7, 0, .null), (7, .aload_n 0, 8, 0, .null), (8, .invokevirtual 125, 11, 0, .null), (11, .ireturn, 12, 0, .null)]
theorem okX8_refusedOf : okP cX8_refusedOf RX8 tX8_refusedOf = true := by decide +kernel
def tX8_refused : List En := [(0, .aload_n 0, 1, 0, .null), (1, .iconst 0, 2, 0, .int (0)), (2, .putfield 47, 5, 0, .null), (5, .iload_n 2, 6, 0, .null), (6, .invokestatic 80, 9, 0, .null), (9, .ifCond .eq 10, 12, 19, .null), (12, .iload_n 3, 13, 0, .null), (13, .invokestatic 80, 16, 0, .null), (16, .ifCond .ne 9, 19, 25, .null), (19, .aload_n 0, 20, 0, .null), (20, .iconst 1, 21, 0, .int (1)), (21, .invokevirtual 70, 24, 0, .null), (24, .ireturn, 25, 0, .null), (25, .iload_n 1, 26, 0, .null), (26, .iconst 0, 27, 0, .int (0)), (27, .iconst 3, 28, 0, .int (3)), (28, .invokestatic 54, 31, 0, .null), (31, .ifCond .eq 13, 34, 44, .null), (34, .aload_n 0, 35, 0, .null), (35, .iload_n 1, 36, 0, .null), (36, .iload_n 2, 37, 0, .null), (37, .iload_n 3, 38, 0, .null), (38, .invokevirtual 270, 41, 0, .null), (41, .goto 8, 44, 49, .null), (44, .aload_n 0, 45, 0, .null), (45, .iconst 2, 46, 0, .int (2)), (46, .invokevirtual 70, 49, 0, .null), (49, .ireturn, 50, 0, .null)]
theorem okX8_refused : okP cX8_refused RX8 tX8_refused = true := by decide +kernel
def tX8_compareOf : List En := [(0, .iconst 1, 1, 0, .int (1)), (1, .istore_n 3, 2, 0, .null), (2, .aload_n 0, 3, 0, .null), (3, .iload_n 1, 4, 0, .null), (4, .invokevirtual 197, 7, 0, .null), (7, .istore 4, 9, 0, .null), (9, .iload 4, 11, 0, .null), (11, .ldc 121, 13, 0, .int (-1000000000)), (13, .if_icmp .eq 17, 16, 30, .null), (16, .aload_n 0, 17, 0, .null), (17, .iload_n 2, 18, 0, .null), (18, .iload 4, 20, 0, .null), (20, .invokevirtual 88, 23, 0, .null), (23, .ifCond .eq 7, 26, 30, .null), (26, .iconst 1, 27, 0, .int (1)), (27, .goto 4, 30, 31, .null), (30, .iconst 0, 31, 0, .int (0)), (31, .istore 5, 33, 0, .null), (33, .iconst 0, 34, 0, .int (0)), (34, .istore 6, 36, 0, .null), (36, .iload 6, 38, 0, .null), (38, .aload_n 0, 39, 0, .null), (39, .invokevirtual 58, 42, 0, .null), (42, .if_icmp .ge 86, 45, 128, .null), (45, .iload_n 3, 46, 0, .null), (46, .ifCond .eq 24, 49, 70, .null), (49, .aload_n 0, 50, 0, .null), (50, .iload_n 1, 51, 0, .null), (51, .iload 6, 53, 0, .null), (53, .invokevirtual 88, 56, 0, .null), (56, .aload_n 0, 57, 0, .null), (57, .iload_n 2, 58, 0, .null), (58, .iload 6, 60, 0, .null), (60, .invokevirtual 88, 63, 0, .null), (63, .if_icmp .ne 7, 66, 70, .null), (66, .iconst 1, 67, 0, .int (1)), (67, .goto 4, 70, 71, .null), (70, .iconst 0, 71, 0, .int (0)), (71, .istore_n 3, 72, 0, .null), (72, .iload 5, 74, 0, .null), (74, .ifCond .eq 45, 77, 119, .null), (77, .aload_n 0, 78, 0, .null), (78, .iload_n 1, 79, 0, .null), (79, .iload 6, 81, 0, .null), (81, .invokevirtual 88, 84, 0, .null), (84, .i2l, 85, 0, .null), (85, .aload_n 0, 86, 0, .null), (86, .iload_n 2, 87, 0, .null), (87, .iload 4, 89, 0, .null), (89, .invokevirtual 88, 92, 0, .null), (92, .i2l, 93, 0, .null), (93, .lmul, 94, 0, .null), (94, .aload_n 0, 95, 0, .null), (95, .iload_n 2, 96, 0, .null), (96, .iload 6, 98, 0, .null), (98, .invokevirtual 88, 101, 0, .null), (101, .i2l, 102, 0, .null), (102, .aload_n 0, 103, 0, .null), (103, .iload_n 1, 104, 0, .null), (104, .iload 4, 106, 0, .null), (106, .invokevirtual 88, 109, 0, .null), (109, .i2l, 110, 0, .null), (110, .lmul, 111, 0, .null), (111, .lcmp, 112, 0, .null), (112, .ifCond .ne 7, 115, 119, .null), (115, .iconst 1, 116, 0, .int (1)), (116, .goto 4, 119, 120, .null), (119, .iconst 0, 120, 0, .int (0)), (120, .istore 5, 122, 0, .null), (122, .iinc 6 1, 125, 0, .int (1)), (125, .goto (-89), 128, 36, .null), (128, .iload_n 3, 129, 0, .null), (129, .ifCond .ne 8, 132, 137, .null), (132, .iload 5, 134, 0, .null), (134, .ifCond .eq 13, 137, 147, .null), (137, .iload_n 3, 138, 0, .null), (138, .ifCond .eq 7, 141, 145, .null), (141, .iconst 0, 142, 0, .int (0)), (142, .goto 4, 145, 146, .null), (145, .iconst 1, 146, 0, .int (1)), (146, .ireturn, 147, 0, .null), (147, .aload_n 0, 148, 0, .null), (148, .iconst 1, 149, 0, .int (1)), (149, .iload_n 1, 150, 0, .null), (150, .iload_n 2, 151, 0, .null), (151, .invokevirtual 131, 154, 0, .null), (154, .aload_n 0, 155, 0, .null), (155, .invokevirtual 214, 158, 0, .null), (158, .ifCond .eq 7, 161, 165, .null), (161, .iconst 2, 162, 0, .int (2)), (162, .goto 4, 165, 166, .null), (165, .iconst 3, 166, 0, .int (3)), (166, .ireturn, 167, 0, .null)]
theorem okX8_compareOf : okP cX8_compareOf RX8 tX8_compareOf = true := by decide +kernel
def tX8_compare : List En := [(0, .aload_n 0, 1, 0, .null), (1, .iconst 0, 2, 0, .int (0)), (2, .putfield 47, 5, 0, .null), (5, .iload_n 1, 6, 0, .null), (6, .invokestatic 80, 9, 0, .null), (9, .ifCond .eq 19, 12, 28, .null), (12, .iload_n 2, 13, 0, .null), (13, .invokestatic 80, 16, 0, .null), (16, .ifCond .eq 12, 19, 28, .null), (19, .aload_n 0, 20, 0, .null), (20, .iload_n 1, 21, 0, .null), (21, .iload_n 2, 22, 0, .null), (22, .invokevirtual 273, 25, 0, .null), (25, .goto 8, 28, 33, .null), (28, .aload_n 0, 29, 0, .null), (29, .iconst 1, 30, 0, .int (1)), (30, .invokevirtual 70, 33, 0, .null), (33, .ireturn, 34, 0, .null)]
theorem okX8_compare : okP cX8_compare RX8 tX8_compare = true := by decide +kernel
def tX8_counted : List En := [(0, .iload_n 1, 1, 0, .null), (76, .aload_n 0, 77, 0, .null), (77, .getfield 7, 80, 0, .null), (80, .iconst 0, 81, 0, .int (0)), (81, .iaload, 82, 0, .null), (82, .ireturn, 83, 0, .null), (83, .aload_n 0, 84, 0, .null), (84, .invokevirtual 182, 87, 0, .null), (87, .ireturn, 88, 0, .null), (88, .aload_n 0, 89, 0, .null), (89, .getfield 51, 92, 0, .null), (92, .ireturn, 93, 0, .null), (93, .aload_n 0, 94, 0, .null), (94, .aload_n 0, 95, 0, .null), (95, .invokevirtual 58, 98, 0, .null), (98, .iconst 1, 99, 0, .int (1)), (99, .isub, 100, 0, .null), (100, .invokevirtual 101, 103, 0, .null), (103, .aload_n 0, 104, 0, .null), (104, .getfield 35, 107, 0, .null), (107, .aload_n 0, 108, 0, .null), (108, .invokevirtual 58, 111, 0, .null), (111, .iconst 1, 112, 0, .int (1)), (112, .isub, 113, 0, .null), (113, .laload, 114, 0, .null), (114, .l2i, 115, 0, .null), (115, .ireturn, 116, 0, .null), (116, .aload_n 0, 117, 0, .null), (117, .aload_n 0, 118, 0, .null), (118, .invokevirtual 58, 121, 0, .null), (121, .iconst 1, 122, 0, .int (1)), (122, .isub, 123, 0, .null), (123, .invokevirtual 94, 126, 0, .null), (126, .ireturn, 127, 0, .null), (127, .aload_n 0, 128, 0, .null), (128, .getfield 19, 131, 0, .null), (131, .iconst 0, 132, 0, .int (0)), (132, .iaload, 133, 0, .null), (133, .aload_n 0, 134, 0, .null), (134, .getfield 19, 137, 0, .null), (137, .iconst 1, 138, 0, .int (1)), (138, .iaload, 139, 0, .null), (139, .iadd, 140, 0, .null), (140, .ireturn, 141, 0, .null), (141, .iload_n 1, 142, 0, .null), (142, .bipush 14, 144, 0, .int (14)), (144, .if_icmp .ge 17, 147, 161, .null), (147, .aload_n 0, 148, 0, .null), (148, .getfield 7, 151, 0, .null), (151, .bipush 31, 153, 0, .int (31)), (153, .iload_n 1, 154, 0, .null), (154, .iadd, 155, 0, .null), (155, .iconst 5, 156, 0, .int (5)), (156, .isub, 157, 0, .null), (157, .iaload, 158, 0, .null), (158, .goto 29, 161, 187, .null), (161, .aload_n 0, 162, 0, .null), (162, .iload_n 1, 163, 0, .null), (163, .bipush 20, 165, 0, .int (20)), (165, .isub, 166, 0, .null), (166, .invokevirtual 76, 169, 0, .null), (169, .ifCond .eq 17, 172, 186, .null), (172, .aload_n 0, 173, 0, .null), (173, .getfield 7, 176, 0, .null), (176, .iconst 1, 177, 0, .int (1)), (177, .iload_n 1, 178, 0, .null), (178, .iadd, 179, 0, .null), (179, .bipush 20, 181, 0, .int (20)), (181, .isub, 182, 0, .null), (182, .iaload, 183, 0, .null), (183, .goto 4, 186, 187, .null), (186, .iconst 0, 187, 0, .int (0)), (187, .ireturn, 188, 0, .null)]
theorem okX8_counted : okP cX8_counted RX8 tX8_counted = true := by decide +kernel
theorem swX8_counted_1 : decode cX8_counted 1 = .ok (.tableswitch 140 0 14 #[75, 82, 87, 92, 115, 140, 140, 140, 140, 140, 140, 140, 140, 140, 126], 75) := by decide +kernel
def tX8_count : List En := [(0, .aload_n 0, 1, 0, .null), (1, .iconst 0, 2, 0, .int (0)), (2, .putfield 47, 5, 0, .null), (5, .iload_n 1, 6, 0, .null), (6, .iconst 0, 7, 0, .int (0)), (7, .bipush 14, 9, 0, .int (14)), (9, .invokestatic 54, 12, 0, .null), (12, .ifCond .ne 14, 15, 26, .null), (15, .iload_n 1, 16, 0, .null), (16, .bipush 20, 18, 0, .int (20)), (18, .bipush 24, 20, 0, .int (24)), (20, .invokestatic 54, 23, 0, .null), (23, .ifCond .eq 11, 26, 34, .null), (26, .aload_n 0, 27, 0, .null), (27, .iload_n 1, 28, 0, .null), (28, .invokevirtual 276, 31, 0, .null), (31, .goto 8, 34, 39, .null), (34, .aload_n 0, 35, 0, .null), (35, .iconst 1, 36, 0, .int (1)), (36, .invokevirtual 70, 39, 0, .null), (39, .ireturn, 40, 0, .null)]
theorem okX8_count : okP cX8_count RX8 tX8_count = true := by decide +kernel
def tX8_matrixAt : List En := [(0, .aload_n 0, 1, 0, .null), (1, .iconst 0, 2, 0, .int (0)), (2, .putfield 47, 5, 0, .null), (5, .aload_n 0, 6, 0, .null), (6, .iload_n 1, 7, 0, .null), (7, .invokevirtual 76, 10, 0, .null), (10, .ifCond .eq 27, 13, 37, .null), (13, .aload_n 0, 14, 0, .null), (14, .iload_n 2, 15, 0, .null), (15, .invokevirtual 76, 18, 0, .null), (18, .ifCond .eq 19, 21, 37, .null), (21, .aload_n 0, 22, 0, .null), (22, .getfield 7, 25, 0, .null), (25, .bipush 6, 27, 0, .int (6)), (27, .iconst 5, 28, 0, .int (5)), (28, .iload_n 1, 29, 0, .null), (29, .imul, 30, 0, .null), (30, .iadd, 31, 0, .null), (31, .iload_n 2, 32, 0, .null), (32, .iadd, 33, 0, .null), (33, .iaload, 34, 0, .null), (34, .goto 8, 37, 42, .null), (37, .aload_n 0, 38, 0, .null), (38, .iconst 1, 39, 0, .int (1)), (39, .invokevirtual 70, 42, 0, .null), (42, .ireturn, 43, 0, .null)]
theorem okX8_matrixAt : okP cX8_matrixAt RX8 tX8_matrixAt = true := by decide +kernel
def tX8_densityOf : List En := [(0, .iconst 0, 1, 0, .int (0)), (1, .istore_n 2, 2, 0, .null), (2, .iconst 0, 3, 0, .int (0)), (3, .istore_n 3, 4, 0, .null), (4, .iload_n 3, 5, 0, .null), (5, .aload_n 0, 6, 0, .null), (6, .invokevirtual 58, 9, 0, .null), (9, .if_icmp .ge 37, 12, 46, .null), (12, .iload_n 2, 13, 0, .null), (13, .iload_n 3, 14, 0, .null), (14, .invokestatic 62, 17, 0, .null), (17, .aload_n 0, 18, 0, .null), (18, .iload_n 1, 19, 0, .null), (19, .invokevirtual 185, 22, 0, .null), (22, .aload_n 0, 23, 0, .null), (23, .iload_n 1, 24, 0, .null), (24, .invokevirtual 188, 27, 0, .null), (27, .invokestatic 54, 30, 0, .null), (30, .ifCond .eq 7, 33, 37, .null), (33, .iconst 1, 34, 0, .int (1)), (34, .goto 4, 37, 38, .null), (37, .iconst 0, 38, 0, .int (0)), (38, .iadd, 39, 0, .null), (39, .istore_n 2, 40, 0, .null), (40, .iinc 3 1, 43, 0, .int (1)), (43, .goto (-39), 46, 4, .null), (46, .aload_n 0, 47, 0, .null), (47, .iload_n 1, 48, 0, .null), (48, .invokevirtual 197, 51, 0, .null), (51, .ldc 121, 53, 0, .int (-1000000000)), (53, .if_icmp .ne 7, 56, 60, .null), (56, .fconst 0, 57, 0, .float 0), (57, .goto 12, 60, 69, .null), (60, .aload_n 0, 61, 0, .null), (61, .iload_n 1, 62, 0, .null), (62, .invokevirtual 122, 65, 0, .null), (65, .i2f, 66, 0, .null), (66, .iload_n 2, 67, 0, .null), (67, .i2f, 68, 0, .null), (68, .fdiv, 69, 0, .null), (69, .freturn, 70, 0, .null)]
theorem okX8_densityOf : okP cX8_densityOf RX8 tX8_densityOf = true := by decide +kernel
def tX8_density : List En := [(0, .aload_n 0, 1, 0, .null), (1, .iconst 0, 2, 0, .int (0)), (2, .putfield 47, 5, 0, .null), (5, .iload_n 1, 6, 0, .null), (6, .invokestatic 80, 9, 0, .null), (9, .ifCond .eq 11, 12, 20, .null), (12, .aload_n 0, 13, 0, .null), (13, .iload_n 1, 14, 0, .null), (14, .invokevirtual 279, 17, 0, .null), (17, .goto 9, 20, 26, .null), (20, .aload_n 0, 21, 0, .null), (21, .iconst 1, 22, 0, .int (1)), (22, .invokevirtual 70, 25, 0, .null), (25, .i2f, 26, 0, .null), (26, .freturn, 27, 0, .null)]
theorem okX8_density : okP cX8_density RX8 tX8_density = true := by decide +kernel
def tX8_shareOf : List En := [(0, .lconst 0, 1, 0, .long 0), (1, .lstore_n 3, 2, 0, .null), (2, .lconst 0, 3, 0, .long 0), (3, .lstore 5, 5, 0, .null), (5, .iconst 0, 6, 0, .int (0)), (6, .istore 7, 8, 0, .null), (8, .iload 7, 10, 0, .null), (10, .aload_n 0, 11, 0, .null), (11, .invokevirtual 58, 14, 0, .null), (14, .if_icmp .ge 66, 17, 80, .null), (17, .aload_n 0, 18, 0, .null), (18, .iload_n 1, 19, 0, .null), (19, .iload 7, 21, 0, .null), (21, .invokevirtual 88, 24, 0, .null), (24, .ifCond .ge 15, 27, 39, .null), (27, .aload_n 0, 28, 0, .null), (28, .iload_n 1, 29, 0, .null), (29, .iload 7, 31, 0, .null), (31, .invokevirtual 88, 34, 0, .null), (34, .ineg, 35, 0, .null), (35, .i2l, 36, 0, .null), (36, .goto 11, 39, 47, .null), (39, .aload_n 0, 40, 0, .null), (40, .iload_n 1, 41, 0, .null), (41, .iload 7, 43, 0, .null), (43, .invokevirtual 88, 46, 0, .null), (46, .i2l, 47, 0, .null), (47, .lstore 8, 49, 0, .null), (49, .lload 5, 51, 0, .null), (51, .lload 8, 53, 0, .null), (53, .ladd, 54, 0, .null), (54, .lstore 5, 56, 0, .null), (56, .lload_n 3, 57, 0, .null), (57, .iload 7, 59, 0, .null), (59, .invokestatic 62, 62, 0, .null), (62, .iload_n 2, 63, 0, .null), (63, .if_icmp .ne 8, 66, 71, .null), (66, .lload 8, 68, 0, .null), (68, .goto 4, 71, 72, .null), (71, .lconst 0, 72, 0, .long 0), (72, .ladd, 73, 0, .null), (73, .lstore_n 3, 74, 0, .null), (74, .iinc 7 1, 77, 0, .int (1)), (77, .goto (-69), 80, 8, .null), (80, .lload 5, 82, 0, .null), (82, .lconst 0, 83, 0, .long 0), (83, .lcmp, 84, 0, .null), (84, .ifCond .ne 7, 87, 91, .null), (87, .dconst 0, 88, 0, .double 0), (88, .goto 9, 91, 97, .null), (91, .lload_n 3, 92, 0, .null), (92, .l2d, 93, 0, .null), (93, .lload 5, 95, 0, .null), (95, .l2d, 96, 0, .null), (96, .ddiv, 97, 0, .null), (97, .dreturn, 98, 0, .null)]
theorem okX8_shareOf : okP cX8_shareOf RX8 tX8_shareOf = true := by decide +kernel
def tX8_share : List En := [(0, .aload_n 0, 1, 0, .null), (1, .iconst 0, 2, 0, .int (0)), (2, .putfield 47, 5, 0, .null), (5, .iload_n 1, 6, 0, .null), (6, .invokestatic 80, 9, 0, .null), (9, .ifCond .ne 10, 12, 19, .null), (12, .aload_n 0, 13, 0, .null), (13, .iconst 1, 14, 0, .int (1)), (14, .invokevirtual 70, 17, 0, .null), (17, .i2d, 18, 0, .null), (18, .dreturn, 19, 0, .null), (19, .iload_n 2, 20, 0, .null), (20, .iconst 0, 21, 0, .int (0)), (21, .aload_n 0, 22, 0, .null), (22, .getfield 7, 25, 0, .null), (25, .iconst 0, 26, 0, .int (0)), (26, .iaload, 27, 0, .null), (27, .invokestatic 54, 30, 0, .null), (30, .ifCond .eq 12, 33, 42, .null), (33, .aload_n 0, 34, 0, .null), (34, .iload_n 1, 35, 0, .null), (35, .iload_n 2, 36, 0, .null), (36, .invokevirtual 283, 39, 0, .null), (39, .goto 9, 42, 48, .null), (42, .aload_n 0, 43, 0, .null), (43, .iconst 2, 44, 0, .int (2)), (44, .invokevirtual 70, 47, 0, .null), (47, .i2d, 48, 0, .null), (48, .dreturn, 49, 0, .null)]
theorem okX8_share : okP cX8_share RX8 tX8_share = true := by decide +kernel
def tX8_mix : List En := [(0, .aload_n 0, 1, 0, .null), (1, .ldc2_w 287, 4, 0, .long (31)), (4, .aload_n 0, 5, 0, .null), (5, .getfield 289, 8, 0, .null), (8, .lmul, 9, 0, .null), (9, .lload_n 1, 10, 0, .null), (10, .ladd, 11, 0, .null), (11, .putfield 289, 14, 0, .null), (14, .return_, 15, 0, .null)]
theorem okX8_mix : okP cX8_mix RX8 tX8_mix = true := by decide +kernel
def tX8_mixSlot : List En := [(0, .iconst 0, 1, 0, .int (0)), (1, .istore_n 2, 2, 0, .null), (2, .iload_n 2, 3, 0, .null), (3, .aload_n 0, 4, 0, .null), (4, .invokevirtual 58, 7, 0, .null), (7, .if_icmp .ge 20, 10, 27, .null), (10, .aload_n 0, 11, 0, .null), (11, .aload_n 0, 12, 0, .null), (12, .iload_n 1, 13, 0, .null), (13, .iload_n 2, 14, 0, .null), (14, .invokevirtual 88, 17, 0, .null), (17, .i2l, 18, 0, .null), (18, .invokevirtual 292, 21, 0, .null), (21, .iinc 2 1, 24, 0, .int (1)), (24, .goto (-22), 27, 2, .null), (27, .iconst 0, 28, 0, .int (0)), (28, .istore_n 2, 29, 0, .null), (29, .iload_n 2, 30, 0, .null), (30, .bipush 8, 32, 0, .int (8)), (32, .if_icmp .ge 20, 35, 52, .null), (35, .aload_n 0, 36, 0, .null), (36, .aload_n 0, 37, 0, .null), (37, .iload_n 1, 38, 0, .null), (38, .iload_n 2, 39, 0, .null), (39, .invokevirtual 203, 42, 0, .null), (42, .i2l, 43, 0, .null), (43, .invokevirtual 292, 46, 0, .null), (46, .iinc 2 1, 49, 0, .int (1)), (49, .goto (-20), 52, 29, .null), (52, .aload_n 0, 53, 0, .null), (53, .aload_n 0, 54, 0, .null), (54, .iload_n 1, 55, 0, .null), (55, .iconst 0, 56, 0, .int (0)), (56, .invokevirtual 258, 59, 0, .null), (59, .i2l, 60, 0, .null), (60, .invokevirtual 292, 63, 0, .null), (63, .aload_n 0, 64, 0, .null), (64, .aload_n 0, 65, 0, .null), (65, .iload_n 1, 66, 0, .null), (66, .iconst 1, 67, 0, .int (1)), (67, .invokevirtual 258, 70, 0, .null), (70, .i2l, 71, 0, .null), (71, .invokevirtual 292, 74, 0, .null), (74, .aload_n 0, 75, 0, .null), (75, .iload_n 1, 76, 0, .null), (76, .invokevirtual 255, 79, 0, .null), (79, .istore_n 2, 80, 0, .null), (80, .aload_n 0, 81, 0, .null), (81, .iload_n 2, 82, 0, .null), (82, .i2l, 83, 0, .null), (83, .invokevirtual 292, 86, 0, .null), (86, .iconst 0, 87, 0, .int (0)), (87, .istore_n 3, 88, 0, .null), (88, .iload_n 2, 89, 0, .null), (89, .ifCond .le 46, 92, 135, .null), (92, .iload_n 3, 93, 0, .null), (93, .iload_n 2, 94, 0, .null), (94, .aload_n 0, 95, 0, .null), (95, .getfield 7, 98, 0, .null), (98, .iconst 0, 99, 0, .int (0)), (99, .iaload, 100, 0, .null), (100, .imul, 101, 0, .null), (101, .if_icmp .ge 34, 104, 135, .null), (104, .aload_n 0, 105, 0, .null), (105, .aload_n 0, 106, 0, .null), (106, .iload_n 3, 107, 0, .null), (107, .aload_n 0, 108, 0, .null), (108, .getfield 7, 111, 0, .null), (111, .iconst 0, 112, 0, .int (0)), (112, .iaload, 113, 0, .null), (113, .idiv, 114, 0, .null), (114, .iload_n 3, 115, 0, .null), (115, .aload_n 0, 116, 0, .null), (116, .getfield 7, 119, 0, .null), (119, .iconst 0, 120, 0, .int (0)), (120, .iaload, 121, 0, .null), (121, .irem, 122, 0, .null), (122, .invokevirtual 267, 125, 0, .null), (125, .i2l, 126, 0, .null), (126, .invokevirtual 292, 129, 0, .null), (129, .iinc 3 1, 132, 0, .int (1)), (132, .goto (-44), 135, 88, .null), (135, .aload_n 0, 136, 0, .null), (136, .iload_n 1, 137, 0, .null), (137, .invokevirtual 261, 140, 0, .null), (140, .istore_n 3, 141, 0, .null), (141, .iconst 0, 142, 0, .int (0)), (142, .istore 4, 144, 0, .null), (144, .iload 4, 146, 0, .null), (146, .iload_n 3, 147, 0, .null), (147, .aload_n 0, 148, 0, .null), (148, .getfield 7, 151, 0, .null), (151, .iconst 0, 152, 0, .int (0)), (152, .iaload, 153, 0, .null), (153, .imul, 154, 0, .null), (154, .if_icmp .ge 37, 157, 191, .null), (157, .aload_n 0, 158, 0, .null), (158, .aload_n 0, 159, 0, .null), (159, .iload_n 1, 160, 0, .null), (160, .iload 4, 162, 0, .null), (162, .aload_n 0, 163, 0, .null), (163, .getfield 7, 166, 0, .null), (166, .iconst 0, 167, 0, .int (0)), (167, .iaload, 168, 0, .null), (168, .idiv, 169, 0, .null), (169, .iload 4, 171, 0, .null), (171, .aload_n 0, 172, 0, .null), (172, .getfield 7, 175, 0, .null), (175, .iconst 0, 176, 0, .int (0)), (176, .iaload, 177, 0, .null), (177, .irem, 178, 0, .null), (178, .invokevirtual 264, 181, 0, .null), (181, .i2l, 182, 0, .null), (182, .invokevirtual 292, 185, 0, .null), (185, .iinc 4 1, 188, 0, .int (1)), (188, .goto (-44), 191, 144, .null), (191, .aload_n 0, 192, 0, .null), (192, .aload_n 0, 193, 0, .null), (193, .iload_n 1, 194, 0, .null), (194, .iconst 0, 195, 0, .int (0)), (195, .invokevirtual 206, 198, 0, .null), (198, .invokevirtual 292, 201, 0, .null), (201, .aload_n 0, 202, 0, .null), (202, .aload_n 0, 203, 0, .null), (203, .iload_n 1, 204, 0, .null), (204, .iconst 1, 205, 0, .int (1)), (205, .invokevirtual 273, 208, 0, .null), (208, .i2l, 209, 0, .null), (209, .invokevirtual 292, 212, 0, .null), (212, .aload_n 0, 213, 0, .null), (213, .aload_n 0, 214, 0, .null), (214, .iload_n 1, 215, 0, .null), (215, .invokevirtual 279, 218, 0, .null), (218, .invokestatic 296, 221, 0, .null), (221, .i2l, 222, 0, .null), (222, .invokevirtual 292, 225, 0, .null), (225, .aload_n 0, 226, 0, .null), (226, .aload_n 0, 227, 0, .null), (227, .iload_n 1, 228, 0, .null), (228, .iconst 2, 229, 0, .int (2)), (229, .invokevirtual 283, 232, 0, .null), (232, .invokestatic 302, 235, 0, .null), (235, .invokevirtual 292, 238, 0, .null), (238, .return_, 239, 0, .null)]
theorem okX8_mixSlot : okP cX8_mixSlot RX8 tX8_mixSlot = true := by decide +kernel
def tX8_digest : List En := [(0, .aload_n 0, 1, 0, .null), (1, .iconst 0, 2, 0, .int (0)), (2, .putfield 47, 5, 0, .null), (5, .aload_n 0, 6, 0, .null), (6, .ldc2_w 308, 9, 0, .long (2423)), (9, .putfield 289, 12, 0, .null), (12, .iconst 0, 13, 0, .int (0)), (13, .istore_n 1, 14, 0, .null), (14, .iload_n 1, 15, 0, .null), (15, .bipush 25, 17, 0, .int (25)), (17, .if_icmp .ge 31, 20, 48, .null), (20, .iload_n 1, 21, 0, .null), (21, .bipush 15, 23, 0, .int (15)), (23, .if_icmp .lt 9, 26, 32, .null), (26, .iload_n 1, 27, 0, .null), (27, .bipush 19, 29, 0, .int (19)), (29, .if_icmp .le 13, 32, 42, .null), (32, .aload_n 0, 33, 0, .null), (33, .aload_n 0, 34, 0, .null), (34, .iload_n 1, 35, 0, .null), (35, .invokevirtual 276, 38, 0, .null), (38, .i2l, 39, 0, .null), (39, .invokevirtual 292, 42, 0, .null), (42, .iinc 1 1, 45, 0, .int (1)), (45, .goto (-31), 48, 14, .null), (48, .iconst 0, 49, 0, .int (0)), (49, .istore_n 1, 50, 0, .null), (50, .iload_n 1, 51, 0, .null), (51, .aload_n 0, 52, 0, .null), (52, .getfield 7, 55, 0, .null), (55, .iconst 0, 56, 0, .int (0)), (56, .iaload, 57, 0, .null), (57, .if_icmp .ge 45, 60, 102, .null), (60, .iconst 0, 61, 0, .int (0)), (61, .istore_n 2, 62, 0, .null), (62, .iload_n 2, 63, 0, .null), (63, .aload_n 0, 64, 0, .null), (64, .getfield 7, 67, 0, .null), (67, .iconst 0, 68, 0, .int (0)), (68, .iaload, 69, 0, .null), (69, .if_icmp .ge 27, 72, 96, .null), (72, .aload_n 0, 73, 0, .null), (73, .aload_n 0, 74, 0, .null), (74, .getfield 7, 77, 0, .null), (77, .bipush 6, 79, 0, .int (6)), (79, .iconst 5, 80, 0, .int (5)), (80, .iload_n 1, 81, 0, .null), (81, .imul, 82, 0, .null), (82, .iadd, 83, 0, .null), (83, .iload_n 2, 84, 0, .null), (84, .iadd, 85, 0, .null), (85, .iaload, 86, 0, .null), (86, .i2l, 87, 0, .null), (87, .invokevirtual 292, 90, 0, .null), (90, .iinc 2 1, 93, 0, .int (1)), (93, .goto (-31), 96, 62, .null), (96, .iinc 1 1, 99, 0, .int (1)), (99, .goto (-49), 102, 50, .null), (102, .iconst 0, 103, 0, .int (0)), (103, .istore_n 1, 104, 0, .null), (104, .iload_n 1, 105, 0, .null), (105, .bipush 8, 107, 0, .int (8)), (107, .if_icmp .ge 14, 110, 121, .null), (110, .aload_n 0, 111, 0, .null), (111, .iload_n 1, 112, 0, .null), (112, .invokevirtual 310, 115, 0, .null), (115, .iinc 1 1, 118, 0, .int (1)), (118, .goto (-14), 121, 104, .null), (121, .iconst 1, 122, 0, .int (1)), (122, .istore_n 1, 123, 0, .null), (123, .iload_n 1, 124, 0, .null), (124, .iconst 4, 125, 0, .int (4)), (125, .if_icmp .ge 21, 128, 146, .null), (128, .aload_n 0, 129, 0, .null), (129, .aload_n 0, 130, 0, .null), (130, .iload_n 1, 131, 0, .null), (131, .iconst 0, 132, 0, .int (0)), (132, .iconst 1, 133, 0, .int (1)), (133, .invokevirtual 270, 136, 0, .null), (136, .i2l, 137, 0, .null), (137, .invokevirtual 292, 140, 0, .null), (140, .iinc 1 1, 143, 0, .int (1)), (143, .goto (-20), 146, 123, .null), (146, .aload_n 0, 147, 0, .null), (147, .aload_n 0, 148, 0, .null), (148, .getfield 139, 151, 0, .null), (151, .i2l, 152, 0, .null), (152, .invokevirtual 292, 155, 0, .null), (155, .iconst 0, 156, 0, .int (0)), (156, .istore_n 1, 157, 0, .null), (157, .iload_n 1, 158, 0, .null), (158, .aload_n 0, 159, 0, .null), (159, .getfield 139, 162, 0, .null), (162, .if_icmp .ge 20, 165, 182, .null), (165, .aload_n 0, 166, 0, .null), (166, .aload_n 0, 167, 0, .null), (167, .getfield 22, 170, 0, .null), (170, .iload_n 1, 171, 0, .null), (171, .iaload, 172, 0, .null), (172, .i2l, 173, 0, .null), (173, .invokevirtual 292, 176, 0, .null), (176, .iinc 1 1, 179, 0, .int (1)), (179, .goto (-22), 182, 157, .null), (182, .aload_n 0, 183, 0, .null), (183, .getfield 289, 186, 0, .null), (186, .lreturn, 187, 0, .null)]
theorem okX8_digest : okP cX8_digest RX8 tX8_digest = true := by decide +kernel
end
section
/-! FIELDS, KINDS OF CELLS -/
def flk : List (Nat × Nat × Nat × Nat × Nat) → Ft
  | [], _ => none
  | (q, r) :: t, ix => bif Nat.beq q ix then some r else flk t ix
theorem flk_mem : ∀ (P : List (Nat × Nat × Nat × Nat × Nat)) {ix : Nat} {r : Nat × Nat × Nat × Nat}, flk P ix = some r → (ix, r) ∈ P
  | [], ix, r, h => by simp [flk] at h
  | (q, z) :: t, ix, r, h => by
    simp only [flk] at h
    cases hq : Nat.beq q ix with
    | true =>
      rw [hq] at h
      simp only [cond_true, Option.some.injEq] at h
      rw [Nat.eq_of_beq_eq_true hq, h]
      exact List.mem_cons_self
    | false =>
      rw [hq] at h
      simp only [cond_false] at h
      exact List.mem_cons_of_mem _ (flk_mem t h)
def ClsOK (ci : Nat) (C : String) (T : u_T) (NF : Nat) (ty0 : Nat → FieldType) : Prop := vwCl[ci]? = some (C, T, NF) ∧ (∀ w ∈ u_ws C T NF, w ∈ WB) ∧ (FD ci).length = NF ∧ (∀ k, k < NF → parseFieldDescriptor (T k).2.2.1 = some (ty0 k)) ∧ (∀ a, a < NF → ∀ b, b < NF → a ≠ b → (T a).2.1 ≠ (T b).2.1)
def feB (own C : String) (T : u_T) (ty0 : Nat → FieldType) (NF : Nat) (q : Nat × Nat × Nat × Nat × Nat) : Bool := Nat.blt q.2.2.1 NF && (decide (Cond.fieldLink own q.1 C (T q.2.2.1).2.1 (T q.2.2.1).2.2.1 ∈ WB) && (decide ((T q.2.2.1).1 = C) && (decide ((FD q.2.1)[q.2.2.1]? = some (q.2.2.2.1, q.2.2.2.2)) && ((Nat.beq q.2.2.2.1 2 || decide ((T q.2.2.1).2.2.2 = false)) && ((!(Nat.beq q.2.2.2.1 0) || decide (ty0 q.2.2.1 = .int)) && ((!(Nat.beq q.2.2.2.1 1) || decide (ty0 q.2.2.1 = .long)) && (!(Nat.beq q.2.2.2.1 3) || decide (ty0 q.2.2.1 = .boolean))))))))
def FeOK (own : String) (q : Nat × Nat × Nat × Nat × Nat) : Prop := ∃ (C : String) (T : u_T) (NF : Nat) (ty0 : Nat → FieldType), ClsOK q.2.1 C T NF ty0 ∧ feB own C T ty0 NF q = true
theorem fok_of {own : String} {l : List (Nat × Nat × Nat × Nat × Nat)} (h : ∀ q ∈ l, FeOK own q) : FOK own (flk l) := by
  intro ix ci j t off hf
  obtain ⟨C, T, NF, ty0, ⟨a1, a2, a3, a4, a5⟩, hb⟩ := h _ (flk_mem l hf)
  simp only [feB, Bool.and_eq_true, Bool.or_eq_true, decide_eq_true_eq, Nat.blt_eq, Bool.not_eq_true', Nat.beq_eq] at hb
  obtain ⟨b1, b2, b3, b4, b5, b6, b7, b8⟩ := hb
  refine ⟨C, T, NF, ty0, a1, b1, a2, b2, b3, b4, a3, a4, a5, fun h => ?_, fun h => ?_, fun h => ?_, fun h => ?_⟩
  · rcases b5 with e | e
    · exact absurd e h
    · exact e
  · rcases b6 with e | e
    · subst h; simp at e
    · exact e
  · rcases b7 with e | e
    · subst h; simp at e
    · exact e
  · rcases b8 with e | e
    · subst h; simp at e
    · exact e
theorem fok_nil {own : String} : FOK own (flk []) := fok_of (fun q h => by cases h)
theorem clsX1 : ClsOK 0 RX1 TX1 6 tyX1 := ⟨rfl, by decide +kernel, by decide, tyX1_ok, nmX1⟩
theorem clsX3 : ClsOK 1 RX3 TX3 3 tyX3 := ⟨rfl, by decide +kernel, by decide, tyX3_ok, nmX3⟩
theorem clsX4 : ClsOK 2 RX4 TX4 3 tyX4 := ⟨rfl, by decide +kernel, by decide, tyX4_ok, nmX4⟩
theorem clsX6 : ClsOK 3 RX6 TX6 5 tyX6 := ⟨rfl, by decide +kernel, by decide, tyX6_ok, nmX6⟩
theorem clsX7 : ClsOK 4 RX7 TX7 11 tyX7 := ⟨rfl, by decide +kernel, by decide, tyX7_ok, nmX7⟩
theorem clsX8 : ClsOK 5 RX8 TX8 24 tyX8 := ⟨rfl, by decide +kernel, by decide, tyX8_ok, nmX8⟩
def FJ6 : Ft := flk []
theorem fokJ6 : FOK RJ6 FJ6 := fok_nil
def FJ9 : Ft := flk []
theorem fokJ9 : FOK RJ9 FJ9 := fok_nil
def FJxe99ae : Ft := flk []
theorem fokJxe99ae : FOK RJxe99ae FJxe99ae := fok_nil
def FJxf58ca : Ft := flk []
theorem fokJxf58ca : FOK RJxf58ca FJxf58ca := fok_nil
def FX0 : Ft := flk []
theorem fokX0 : FOK RX0 FX0 := fok_nil
def FX1 : Ft := flk [(9, 0, 0, 2, 1), (15, 0, 2, 0, 0), (30, 0, 1, 0, 0), (37, 0, 3, 3, 0), (41, 0, 4, 0, 0), (44, 0, 5, 0, 0)]
theorem fokX1 : FOK RX1 FX1 := fok_of (List.forall_mem_cons.mpr ⟨⟨_, _, _, _, clsX1, by decide +kernel⟩, List.forall_mem_cons.mpr ⟨⟨_, _, _, _, clsX1, by decide +kernel⟩, List.forall_mem_cons.mpr ⟨⟨_, _, _, _, clsX1, by decide +kernel⟩, List.forall_mem_cons.mpr ⟨⟨_, _, _, _, clsX1, by decide +kernel⟩, List.forall_mem_cons.mpr ⟨⟨_, _, _, _, clsX1, by decide +kernel⟩, List.forall_mem_cons.mpr ⟨⟨_, _, _, _, clsX1, by decide +kernel⟩, fun _ h => by cases h⟩⟩⟩⟩⟩⟩)
def FX2 : Ft := flk []
theorem fokX2 : FOK RX2 FX2 := fok_nil
def FX3 : Ft := flk [(11, 1, 0, 2, 1), (18, 1, 1, 0, 0), (22, 1, 2, 0, 0)]
theorem fokX3 : FOK RX3 FX3 := fok_of (List.forall_mem_cons.mpr ⟨⟨_, _, _, _, clsX3, by decide +kernel⟩, List.forall_mem_cons.mpr ⟨⟨_, _, _, _, clsX3, by decide +kernel⟩, List.forall_mem_cons.mpr ⟨⟨_, _, _, _, clsX3, by decide +kernel⟩, fun _ h => by cases h⟩⟩⟩)
def FX4 : Ft := flk [(11, 2, 0, 2, 1), (16, 2, 1, 2, 7), (20, 2, 2, 0, 0)]
theorem fokX4 : FOK RX4 FX4 := fok_of (List.forall_mem_cons.mpr ⟨⟨_, _, _, _, clsX4, by decide +kernel⟩, List.forall_mem_cons.mpr ⟨⟨_, _, _, _, clsX4, by decide +kernel⟩, List.forall_mem_cons.mpr ⟨⟨_, _, _, _, clsX4, by decide +kernel⟩, fun _ h => by cases h⟩⟩⟩)
def FX5 : Ft := flk [(15, 3, 1, 2, 1), (35, 3, 2, 2, 10), (47, 3, 0, 0, 0), (55, 3, 3, 2, 11)]
theorem fokX5 : FOK RX5 FX5 := fok_of (List.forall_mem_cons.mpr ⟨⟨_, _, _, _, clsX6, by decide +kernel⟩, List.forall_mem_cons.mpr ⟨⟨_, _, _, _, clsX6, by decide +kernel⟩, List.forall_mem_cons.mpr ⟨⟨_, _, _, _, clsX6, by decide +kernel⟩, List.forall_mem_cons.mpr ⟨⟨_, _, _, _, clsX6, by decide +kernel⟩, fun _ h => by cases h⟩⟩⟩⟩)
def FX6 : Ft := flk [(11, 3, 1, 2, 1), (16, 3, 2, 2, 10), (20, 3, 3, 2, 11), (23, 3, 4, 2, 17), (30, 3, 0, 0, 0)]
theorem fokX6 : FOK RX6 FX6 := fok_of (List.forall_mem_cons.mpr ⟨⟨_, _, _, _, clsX6, by decide +kernel⟩, List.forall_mem_cons.mpr ⟨⟨_, _, _, _, clsX6, by decide +kernel⟩, List.forall_mem_cons.mpr ⟨⟨_, _, _, _, clsX6, by decide +kernel⟩, List.forall_mem_cons.mpr ⟨⟨_, _, _, _, clsX6, by decide +kernel⟩, List.forall_mem_cons.mpr ⟨⟨_, _, _, _, clsX6, by decide +kernel⟩, fun _ h => by cases h⟩⟩⟩⟩⟩)
def FX7 : Ft := flk [(10, 4, 0, 2, 1), (19, 4, 1, 2, 19), (23, 4, 2, 2, 129), (27, 4, 3, 2, 166), (31, 4, 4, 2, 167), (35, 4, 5, 0, 0), (39, 4, 6, 2, 168), (43, 4, 7, 2, 169), (46, 4, 8, 2, 170), (52, 4, 9, 2, 171), (59, 4, 10, 2, 179), (74, 3, 0, 0, 0), (86, 3, 2, 2, 10), (93, 3, 3, 2, 11), (104, 3, 1, 2, 1), (172, 0, 0, 2, 1), (198, 1, 2, 0, 0), (256, 3, 4, 2, 17)]
theorem fokX7 : FOK RX7 FX7 := fok_of (List.forall_mem_cons.mpr ⟨⟨_, _, _, _, clsX7, by decide +kernel⟩, List.forall_mem_cons.mpr ⟨⟨_, _, _, _, clsX7, by decide +kernel⟩, List.forall_mem_cons.mpr ⟨⟨_, _, _, _, clsX7, by decide +kernel⟩, List.forall_mem_cons.mpr ⟨⟨_, _, _, _, clsX7, by decide +kernel⟩, List.forall_mem_cons.mpr ⟨⟨_, _, _, _, clsX7, by decide +kernel⟩, List.forall_mem_cons.mpr ⟨⟨_, _, _, _, clsX7, by decide +kernel⟩, List.forall_mem_cons.mpr ⟨⟨_, _, _, _, clsX7, by decide +kernel⟩, List.forall_mem_cons.mpr ⟨⟨_, _, _, _, clsX7, by decide +kernel⟩, List.forall_mem_cons.mpr ⟨⟨_, _, _, _, clsX7, by decide +kernel⟩, List.forall_mem_cons.mpr ⟨⟨_, _, _, _, clsX7, by decide +kernel⟩, List.forall_mem_cons.mpr ⟨⟨_, _, _, _, clsX7, by decide +kernel⟩, List.forall_mem_cons.mpr ⟨⟨_, _, _, _, clsX6, by decide +kernel⟩, List.forall_mem_cons.mpr ⟨⟨_, _, _, _, clsX6, by decide +kernel⟩, List.forall_mem_cons.mpr ⟨⟨_, _, _, _, clsX6, by decide +kernel⟩, List.forall_mem_cons.mpr ⟨⟨_, _, _, _, clsX6, by decide +kernel⟩, List.forall_mem_cons.mpr ⟨⟨_, _, _, _, clsX1, by decide +kernel⟩, List.forall_mem_cons.mpr ⟨⟨_, _, _, _, clsX3, by decide +kernel⟩, List.forall_mem_cons.mpr ⟨⟨_, _, _, _, clsX6, by decide +kernel⟩, fun _ h => by cases h⟩⟩⟩⟩⟩⟩⟩⟩⟩⟩⟩⟩⟩⟩⟩⟩⟩⟩)
def FX8 : Ft := flk [(7, 5, 0, 2, 1), (13, 5, 1, 2, 2), (16, 5, 3, 2, 3), (19, 5, 4, 2, 4), (22, 5, 5, 2, 5), (25, 5, 8, 2, 6), (29, 5, 9, 2, 7), (32, 5, 10, 2, 8), (35, 5, 11, 2, 9), (38, 5, 19, 2, 10), (41, 5, 20, 2, 11), (47, 5, 7, 0, 0), (51, 5, 2, 0, 0), (139, 5, 6, 0, 0), (142, 5, 14, 0, 0), (145, 5, 15, 0, 0), (148, 5, 16, 0, 0), (151, 5, 18, 0, 0), (154, 5, 17, 0, 0), (169, 5, 12, 0, 0), (172, 5, 13, 3, 0), (218, 5, 21, 0, 0), (221, 5, 22, 1, 0), (289, 5, 23, 1, 0)]
theorem fokX8 : FOK RX8 FX8 := fok_of (List.forall_mem_cons.mpr ⟨⟨_, _, _, _, clsX8, by decide +kernel⟩, List.forall_mem_cons.mpr ⟨⟨_, _, _, _, clsX8, by decide +kernel⟩, List.forall_mem_cons.mpr ⟨⟨_, _, _, _, clsX8, by decide +kernel⟩, List.forall_mem_cons.mpr ⟨⟨_, _, _, _, clsX8, by decide +kernel⟩, List.forall_mem_cons.mpr ⟨⟨_, _, _, _, clsX8, by decide +kernel⟩, List.forall_mem_cons.mpr ⟨⟨_, _, _, _, clsX8, by decide +kernel⟩, List.forall_mem_cons.mpr ⟨⟨_, _, _, _, clsX8, by decide +kernel⟩, List.forall_mem_cons.mpr ⟨⟨_, _, _, _, clsX8, by decide +kernel⟩, List.forall_mem_cons.mpr ⟨⟨_, _, _, _, clsX8, by decide +kernel⟩, List.forall_mem_cons.mpr ⟨⟨_, _, _, _, clsX8, by decide +kernel⟩, List.forall_mem_cons.mpr ⟨⟨_, _, _, _, clsX8, by decide +kernel⟩, List.forall_mem_cons.mpr ⟨⟨_, _, _, _, clsX8, by decide +kernel⟩, List.forall_mem_cons.mpr ⟨⟨_, _, _, _, clsX8, by decide +kernel⟩, List.forall_mem_cons.mpr ⟨⟨_, _, _, _, clsX8, by decide +kernel⟩, List.forall_mem_cons.mpr ⟨⟨_, _, _, _, clsX8, by decide +kernel⟩, List.forall_mem_cons.mpr ⟨⟨_, _, _, _, clsX8, by decide +kernel⟩, List.forall_mem_cons.mpr ⟨⟨_, _, _, _, clsX8, by decide +kernel⟩, List.forall_mem_cons.mpr ⟨⟨_, _, _, _, clsX8, by decide +kernel⟩, List.forall_mem_cons.mpr ⟨⟨_, _, _, _, clsX8, by decide +kernel⟩, List.forall_mem_cons.mpr ⟨⟨_, _, _, _, clsX8, by decide +kernel⟩, List.forall_mem_cons.mpr ⟨⟨_, _, _, _, clsX8, by decide +kernel⟩, List.forall_mem_cons.mpr ⟨⟨_, _, _, _, clsX8, by decide +kernel⟩, List.forall_mem_cons.mpr ⟨⟨_, _, _, _, clsX8, by decide +kernel⟩, List.forall_mem_cons.mpr ⟨⟨_, _, _, _, clsX8, by decide +kernel⟩, fun _ h => by cases h⟩⟩⟩⟩⟩⟩⟩⟩⟩⟩⟩⟩⟩⟩⟩⟩⟩⟩⟩⟩⟩⟩⟩⟩)
/-- the kinds of a State's cells, by their place in it -/
def kdS (o : Nat) : Nat × Nat × Nat := if o = 0 then (0, 3, 0) else if o = 1 then (5, 8, 1) else if o ≤ 9 then (1, 32, 0) else if o = 10 then (1, 5, 0) else if o = 11 then (5, 5, 1) else if o ≤ 16 then (1, 5, 0) else (1, 9, 0)
/-- the kinds of the class's cells -/
def kdC (i : Nat) : Nat × Nat × Nat := if i = 0 then (0, 4, 0) else if i < 19 then kdS (i - 1) else if i = 19 then (0, 1, 0) else if i = 20 then (4, 6, 18) else if i < 129 then kdS ((i - 21) % 18) else if i = 129 then (4, 2, 18) else if i < 166 then kdS ((i - 130) % 18) else if i = 166 then (3, 2, 0) else if i = 167 then (1, 60, 0) else if i = 168 then (2, 32, 0) else if i = 169 then (2, 32, 0) else if i = 170 then (1, 32, 0) else if i = 171 then (0, 2, 0) else if i = 172 then (6, 5, 1) else if i ≤ 178 then (2, 5, 0) else if i = 179 then (0, 0, 0) else if i = 180 then (1, 32, 0) else (9, 0, 0)
/-- the kinds of the reference's cells -/
def kdR (i : Nat) : Nat × Nat × Nat := if i = 0 then (0, 5, 0) else if i = 1 then (1, 296, 0) else if i = 2 then (1, 1776, 0) else if i = 3 then (1, 574, 0) else if i = 4 then (1, 2, 0) else if i = 5 then (1, 60, 0) else if i ≤ 9 then (2, 32, 0) else if i = 10 then (2, 160, 0) else if i = 11 then (1, 5, 0) else (9, 0, 0)
theorem kdS_lt (o : Nat) : (kdS o).2.1 < 2147483648 := by unfold kdS; repeat' split
                                                          all_goals decide
theorem kdC_ok : kdOK kdC 181 := by
  constructor
  · intro i h
    rcases Nat.lt_or_ge i 181 with h1 | h1
    · exact h1
    · exfalso
      unfold kdC at h
      simp only [show ¬ i = 0 by omega, show ¬ i < 19 by omega, show ¬ i = 19 by omega, show ¬ i = 20 by omega, show ¬ i < 129 by omega, show ¬ i = 129 by omega, show ¬ i < 166 by omega, show ¬ i = 166 by omega, show ¬ i = 167 by omega, show ¬ i = 168 by omega, show ¬ i = 169 by omega, show ¬ i = 170 by omega, show ¬ i = 171 by omega, show ¬ i = 172 by omega, show ¬ i ≤ 178 by omega, show ¬ i = 179 by omega, show ¬ i = 180 by omega, if_false] at h
      omega
  · intro i
    rcases Nat.lt_or_ge i 181 with h1 | h1
    · exact (by decide +kernel : ∀ i, i < 181 → (kdC i).2.1 < 2147483648) i h1
    · unfold kdC
      simp only [show ¬ i = 0 by omega, show ¬ i < 19 by omega, show ¬ i = 19 by omega, show ¬ i = 20 by omega, show ¬ i < 129 by omega, show ¬ i = 129 by omega, show ¬ i < 166 by omega, show ¬ i = 166 by omega, show ¬ i = 167 by omega, show ¬ i = 168 by omega, show ¬ i = 169 by omega, show ¬ i = 170 by omega, show ¬ i = 171 by omega, show ¬ i = 172 by omega, show ¬ i ≤ 178 by omega, show ¬ i = 179 by omega, show ¬ i = 180 by omega, if_false]
      decide
theorem kdR_ok : kdOK kdR 12 := by
  constructor
  · intro i h
    rcases Nat.lt_or_ge i 12 with h1 | h1
    · exact h1
    · exfalso
      unfold kdR at h
      simp only [show ¬ i = 0 by omega, show ¬ i = 1 by omega, show ¬ i = 2 by omega, show ¬ i = 3 by omega, show ¬ i = 4 by omega, show ¬ i = 5 by omega, show ¬ i ≤ 9 by omega, show ¬ i = 10 by omega, show ¬ i = 11 by omega, if_false] at h
      omega
  · intro i
    unfold kdR
    repeat' split
    all_goals decide
/-- the places of States -/
def isSt (b : Nat) : Prop := b = 1 ∨ (∃ j, j < 6 ∧ b = 21 + 18 * j) ∨ ∃ j, j < 2 ∧ b = 130 + 18 * j
theorem kd_st {b o : Nat} {r : Nat × Nat × Nat} (hb : isSt b) (ho : o < 18) (h : kdS o = r) : kdC (b + o) = r := by
  rw [← h]
  rcases hb with rfl | ⟨j, hj, rfl⟩ | ⟨j, hj, rfl⟩
  · unfold kdC
    rw [if_neg (by omega), if_pos (by omega), show 1 + o - 1 = o by omega]
  · unfold kdC
    rw [if_neg (by omega), if_neg (by omega), if_neg (by omega), if_neg (by omega), if_pos (by omega), show (21 + 18 * j + o - 21) % 18 = o by omega]
  · unfold kdC
    rw [if_neg (by omega), if_neg (by omega), if_neg (by omega), if_neg (by omega), if_neg (by omega), if_neg (by omega), if_pos (by omega), show (130 + 18 * j + o - 130) % 18 = o by omega]
theorem kd_st0 {b : Nat} (hb : isSt b) : kdC b = (0, 3, 0) := kd_st (o := 0) hb (by decide) rfl
end
section
/-! WORDS, by their places -/
theorem wb_of {w : Cond} (h : w ∈ lw_tbl) (g : goodWord w = true) : w ∈ WB := List.mem_filter.mpr ⟨h, g⟩
theorem wb_t {w : Cond} (h : w ∈ tables_1) (g : goodWord w = true) : w ∈ WB := wb_of (List.mem_append_right _ h) g
theorem wb_1 {w : Cond} (i : Nat) (h : tables_1_1[i]? = some w) (g : goodWord w = true) : w ∈ WB := wb_t (List.mem_append_left _ (List.mem_of_getElem? h)) g
theorem wb_2 {w : Cond} (i : Nat) (h : tables_1_2[i]? = some w) (g : goodWord w = true) : w ∈ WB := wb_t (List.mem_append_right _ (List.mem_append_left _ (List.mem_of_getElem? h))) g
theorem wb_3 {w : Cond} (i : Nat) (h : tables_1_3[i]? = some w) (g : goodWord w = true) : w ∈ WB := wb_t (List.mem_append_right _ (List.mem_append_right _ (List.mem_append_left _ (List.mem_of_getElem? h)))) g
theorem wb_4 {w : Cond} (i : Nat) (h : tables_1_4[i]? = some w) (g : goodWord w = true) : w ∈ WB := wb_t (List.mem_append_right _ (List.mem_append_right _ (List.mem_append_right _ (List.mem_append_left _ (List.mem_of_getElem? h))))) g
theorem wb_5 {w : Cond} (i : Nat) (h : tables_1_5[i]? = some w) (g : goodWord w = true) : w ∈ WB := wb_t (List.mem_append_right _ (List.mem_append_right _ (List.mem_append_right _ (List.mem_append_right _ (List.mem_append_left _ (List.mem_of_getElem? h)))))) g
theorem wb_6 {w : Cond} (i : Nat) (h : tables_1_6[i]? = some w) (g : goodWord w = true) : w ∈ WB := wb_t (List.mem_append_right _ (List.mem_append_right _ (List.mem_append_right _ (List.mem_append_right _ (List.mem_append_right _ (List.mem_of_getElem? h)))))) g
theorem wb_p {y : MethodName} {n : Nat} (h : (y, n) ∈ lw_privs) (g : goodWord (Cond.selects y.cls y y) = true) : Cond.selects y.cls y y ∈ WB := wb_of (List.mem_append_left _ (List.mem_map.mpr ⟨(y, n), h, rfl⟩)) g
theorem wb_p1 {y : MethodName} (i : Nat) {n : Nat} (h : lw_privs_1[i]? = some (y, n)) (g : goodWord (Cond.selects y.cls y y) = true) : Cond.selects y.cls y y ∈ WB := wb_p (List.mem_append_left _ (List.mem_of_getElem? h)) g
theorem wb_p2 {y : MethodName} (i : Nat) {n : Nat} (h : lw_privs_2[i]? = some (y, n)) (g : goodWord (Cond.selects y.cls y y) = true) : Cond.selects y.cls y y ∈ WB := wb_p (List.mem_append_right _ (List.mem_append_left _ (List.mem_of_getElem? h))) g
theorem wb_p3 {y : MethodName} (i : Nat) {n : Nat} (h : lw_privs_3[i]? = some (y, n)) (g : goodWord (Cond.selects y.cls y y) = true) : Cond.selects y.cls y y ∈ WB := wb_p (List.mem_append_right _ (List.mem_append_right _ (List.mem_append_left _ (List.mem_of_getElem? h)))) g
theorem wb_p4 {y : MethodName} (i : Nat) {n : Nat} (h : lw_privs_4[i]? = some (y, n)) (g : goodWord (Cond.selects y.cls y y) = true) : Cond.selects y.cls y y ∈ WB := wb_p (List.mem_append_right _ (List.mem_append_right _ (List.mem_append_right _ (List.mem_append_left _ (List.mem_of_getElem? h))))) g
theorem wb_p5 {y : MethodName} (i : Nat) {n : Nat} (h : lw_privs_5[i]? = some (y, n)) (g : goodWord (Cond.selects y.cls y y) = true) : Cond.selects y.cls y y ∈ WB := wb_p (List.mem_append_right _ (List.mem_append_right _ (List.mem_append_right _ (List.mem_append_right _ (List.mem_append_left _ (List.mem_of_getElem? h)))))) g
theorem wb_p6 {y : MethodName} (i : Nat) {n : Nat} (h : lw_privs_6[i]? = some (y, n)) (g : goodWord (Cond.selects y.cls y y) = true) : Cond.selects y.cls y y ∈ WB := wb_p (List.mem_append_right _ (List.mem_append_right _ (List.mem_append_right _ (List.mem_append_right _ (List.mem_append_right _ (List.mem_of_getElem? h)))))) g
end
section
/-! CALLS: what their words say -/
theorem sSJxe99ae_122 : SitS RJxe99ae 122 yJxe99ae_isNaN_b9ae7 cJxe99ae_isNaN_b9ae7 2 (some .boolean) 1 := ⟨⟨(wb_6 117 (by decide +kernel) rfl), (wb_6 118 (by decide +kernel) rfl), (wb_1 20 (by decide +kernel) rfl), (wb_6 119 (by decide +kernel) rfl)⟩, by decide +kernel⟩
theorem sSJxf58ca_59 : SitS RJxf58ca 59 yJxf58ca_isNaN_12338 cJxf58ca_isNaN_12338 1 (some .boolean) 1 := ⟨⟨(wb_6 107 (by decide +kernel) rfl), (wb_6 108 (by decide +kernel) rfl), (wb_1 19 (by decide +kernel) rfl), (wb_6 109 (by decide +kernel) rfl)⟩, by decide +kernel⟩
theorem sVX1_19 : SitV RX1 19 yX1_start cX1_start 3 none 1 := ⟨⟨(wb_1 179 (by decide +kernel) rfl), (wb_1 181 (by decide +kernel) rfl), (wb_p1 (n := 6) 0 (by decide +kernel) rfl), (wb_1 5 (by decide +kernel) rfl), (wb_1 182 (by decide +kernel) rfl)⟩, by decide +kernel⟩
theorem sVX1_23 : SitV RX1 23 yX1_accepts cX1_accepts 2 (some .boolean) 1 := ⟨⟨(wb_1 187 (by decide +kernel) rfl), (wb_1 189 (by decide +kernel) rfl), (wb_p1 (n := 6) 2 (by decide +kernel) rfl), (wb_1 5 (by decide +kernel) rfl), (wb_1 190 (by decide +kernel) rfl)⟩, by decide +kernel⟩
theorem sVX1_27 : SitV RX1 27 yX1_addTerm cX1_addTerm 1 none 0 := ⟨⟨(wb_1 195 (by decide +kernel) rfl), (wb_1 197 (by decide +kernel) rfl), (wb_p1 (n := 6) 4 (by decide +kernel) rfl), (wb_1 5 (by decide +kernel) rfl), (wb_1 198 (by decide +kernel) rfl)⟩, by decide +kernel⟩
theorem sVX1_33 : SitV RX1 33 yX1_startTerm cX1_startTerm 2 none 1 := ⟨⟨(wb_1 183 (by decide +kernel) rfl), (wb_1 185 (by decide +kernel) rfl), (wb_p1 (n := 6) 1 (by decide +kernel) rfl), (wb_1 5 (by decide +kernel) rfl), (wb_1 186 (by decide +kernel) rfl)⟩, by decide +kernel⟩
theorem sVX1_47 : SitV RX1 47 yX1_acceptsSign cX1_acceptsSign 2 (some .boolean) 1 := ⟨⟨(wb_1 191 (by decide +kernel) rfl), (wb_1 193 (by decide +kernel) rfl), (wb_p1 (n := 6) 3 (by decide +kernel) rfl), (wb_1 5 (by decide +kernel) rfl), (wb_1 194 (by decide +kernel) rfl)⟩, by decide +kernel⟩
theorem sVX1_51 : SitV RX1 51 yX1_acceptsLetter cX1_acceptsLetter 1 (some .boolean) 0 := ⟨⟨(wb_1 199 (by decide +kernel) rfl), (wb_1 201 (by decide +kernel) rfl), (wb_p1 (n := 6) 5 (by decide +kernel) rfl), (wb_1 5 (by decide +kernel) rfl), (wb_1 202 (by decide +kernel) rfl)⟩, by decide +kernel⟩
theorem sVX1_55 : SitV RX1 55 yX1_acceptsDigit cX1_acceptsDigit 2 (some .boolean) 1 := ⟨⟨(wb_1 203 (by decide +kernel) rfl), (wb_1 205 (by decide +kernel) rfl), (wb_p1 (n := 6) 6 (by decide +kernel) rfl), (wb_1 5 (by decide +kernel) rfl), (wb_1 206 (by decide +kernel) rfl)⟩, by decide +kernel⟩
theorem sVX1_58 : SitV RX1 58 yX1_acceptsFirstDigit cX1_acceptsFirstDigit 2 (some .boolean) 1 := ⟨⟨(wb_1 207 (by decide +kernel) rfl), (wb_1 209 (by decide +kernel) rfl), (wb_p1 (n := 6) 7 (by decide +kernel) rfl), (wb_1 5 (by decide +kernel) rfl), (wb_1 210 (by decide +kernel) rfl)⟩, by decide +kernel⟩
theorem sVX1_61 : SitV RX1 61 yX1_acceptsDirection cX1_acceptsDirection 2 (some .boolean) 1 := ⟨⟨(wb_1 211 (by decide +kernel) rfl), (wb_1 213 (by decide +kernel) rfl), (wb_p1 (n := 6) 8 (by decide +kernel) rfl), (wb_1 5 (by decide +kernel) rfl), (wb_1 214 (by decide +kernel) rfl)⟩, by decide +kernel⟩
theorem sSX2_9 : SitS RX2 9 yX2_countNonzero cX2_countNonzero 3 (some .int) 1 := ⟨⟨(wb_2 111 (by decide +kernel) rfl), (wb_2 112 (by decide +kernel) rfl), (wb_1 15 (by decide +kernel) rfl), (wb_2 113 (by decide +kernel) rfl)⟩, by decide +kernel⟩
theorem sSX2_15 : SitS RX2 15 yX2_gradeOf cX2_gradeOf 2 (some .int) 1 := ⟨⟨(wb_2 114 (by decide +kernel) rfl), (wb_2 115 (by decide +kernel) rfl), (wb_1 15 (by decide +kernel) rfl), (wb_2 116 (by decide +kernel) rfl)⟩, by decide +kernel⟩
theorem sSX2_18 : SitS RX2 18 yX2_lowestGrade cX2_lowestGrade 3 (some .int) 1 := ⟨⟨(wb_2 117 (by decide +kernel) rfl), (wb_2 118 (by decide +kernel) rfl), (wb_1 15 (by decide +kernel) rfl), (wb_2 119 (by decide +kernel) rfl)⟩, by decide +kernel⟩
theorem sSX2_21 : SitS RX2 21 yX2_highestGrade cX2_highestGrade 3 (some .int) 1 := ⟨⟨(wb_2 121 (by decide +kernel) rfl), (wb_2 122 (by decide +kernel) rfl), (wb_1 15 (by decide +kernel) rfl), (wb_2 123 (by decide +kernel) rfl)⟩, by decide +kernel⟩
theorem sSX2_24 : SitS RX2 24 yX2_greatestSize cX2_greatestSize 3 (some .int) 1 := ⟨⟨(wb_2 124 (by decide +kernel) rfl), (wb_2 125 (by decide +kernel) rfl), (wb_1 15 (by decide +kernel) rfl), (wb_2 126 (by decide +kernel) rfl)⟩, by decide +kernel⟩
theorem sSX2_27 : SitS RX2 27 yX2_leadOf cX2_leadOf 2 (some .int) 1 := ⟨⟨(wb_2 133 (by decide +kernel) rfl), (wb_1 238 (by decide +kernel) rfl), (wb_1 15 (by decide +kernel) rfl), (wb_1 239 (by decide +kernel) rfl)⟩, by decide +kernel⟩
theorem sSX2_30 : SitS RX2 30 yX2_leadCoefficient cX2_leadCoefficient 2 (some .int) 1 := ⟨⟨(wb_2 134 (by decide +kernel) rfl), (wb_2 135 (by decide +kernel) rfl), (wb_1 15 (by decide +kernel) rfl), (wb_2 136 (by decide +kernel) rfl)⟩, by decide +kernel⟩
theorem sSX2_33 : SitS RX2 33 yX2_directionsOf cX2_directionsOf 3 (some .int) 1 := ⟨⟨(wb_2 137 (by decide +kernel) rfl), (wb_2 138 (by decide +kernel) rfl), (wb_1 15 (by decide +kernel) rfl), (wb_2 139 (by decide +kernel) rfl)⟩, by decide +kernel⟩
theorem sSX2_37 : SitS RX2 37 yJ6_bitCount_0f7a4 cJ6_bitCount_0f7a4 1 (some .int) 1 := ⟨⟨(wb_2 120 (by decide +kernel) rfl), (wb_2 13 (by decide +kernel) rfl), (wb_1 16 (by decide +kernel) rfl), (wb_2 14 (by decide +kernel) rfl)⟩, by decide +kernel⟩
theorem sSX2_52 : SitS RX2 52 yX5_oddTurns cX5_oddTurns 3 (some .boolean) 2 := ⟨⟨(wb_2 154 (by decide +kernel) rfl), (wb_2 22 (by decide +kernel) rfl), (wb_1 13 (by decide +kernel) rfl), (wb_2 23 (by decide +kernel) rfl)⟩, by decide +kernel⟩
theorem sSX2_58 : SitS RX2 58 yX2_partnerNumber cX2_partnerNumber 5 (some .int) 3 := ⟨⟨(wb_2 219 (by decide +kernel) rfl), (wb_2 152 (by decide +kernel) rfl), (wb_1 15 (by decide +kernel) rfl), (wb_2 153 (by decide +kernel) rfl)⟩, by decide +kernel⟩
theorem sVX3_25 : SitV RX3 25 yX6_copyAll cX6_copyAll 2 none 1 := ⟨⟨(wb_3 79 (by decide +kernel) rfl), (wb_3 80 (by decide +kernel) rfl), (wb_3 81 (by decide +kernel) rfl), (wb_1 2 (by decide +kernel) rfl), (wb_3 82 (by decide +kernel) rfl)⟩, by decide +kernel⟩
theorem sSX4_24 : SitS RX4 24 yX2_greatestSize cX2_greatestSize 3 (some .int) 1 := ⟨⟨(wb_2 173 (by decide +kernel) rfl), (wb_2 125 (by decide +kernel) rfl), (wb_1 15 (by decide +kernel) rfl), (wb_2 126 (by decide +kernel) rfl)⟩, by decide +kernel⟩
theorem sVX4_31 : SitV RX4 31 yX4_startWithAll cX4_startWithAll 4 none 1 := ⟨⟨(wb_2 175 (by decide +kernel) rfl), (wb_2 177 (by decide +kernel) rfl), (wb_p2 (n := 3) 3 (by decide +kernel) rfl), (wb_1 4 (by decide +kernel) rfl), (wb_2 178 (by decide +kernel) rfl)⟩, by decide +kernel⟩
theorem sVX4_35 : SitV RX4 35 yX4_cut cX4_cut 6 none 3 := ⟨⟨(wb_2 179 (by decide +kernel) rfl), (wb_2 181 (by decide +kernel) rfl), (wb_p2 (n := 3) 4 (by decide +kernel) rfl), (wb_1 4 (by decide +kernel) rfl), (wb_2 182 (by decide +kernel) rfl)⟩, by decide +kernel⟩
theorem sSX4_39 : SitS RX4 39 yX4_valueAt cX4_valueAt 11 (some .long) 4 := ⟨⟨(wb_2 183 (by decide +kernel) rfl), (wb_2 184 (by decide +kernel) rfl), (wb_1 4 (by decide +kernel) rfl), (wb_2 185 (by decide +kernel) rfl)⟩, by decide +kernel⟩
theorem sVX4_43 : SitV RX4 43 yX4_clearWith cX4_clearWith 11 none 3 := ⟨⟨(wb_2 187 (by decide +kernel) rfl), (wb_2 189 (by decide +kernel) rfl), (wb_p2 (n := 3) 5 (by decide +kernel) rfl), (wb_1 4 (by decide +kernel) rfl), (wb_2 190 (by decide +kernel) rfl)⟩, by decide +kernel⟩
theorem sVX4_47 : SitV RX4 47 yX4_removeVector cX4_removeVector 4 none 2 := ⟨⟨(wb_2 197 (by decide +kernel) rfl), (wb_2 199 (by decide +kernel) rfl), (wb_p2 (n := 3) 6 (by decide +kernel) rfl), (wb_1 4 (by decide +kernel) rfl), (wb_2 200 (by decide +kernel) rfl)⟩, by decide +kernel⟩
theorem sSX4_51 : SitS RX4 51 yX5_oddTurns cX5_oddTurns 3 (some .boolean) 2 := ⟨⟨(wb_2 186 (by decide +kernel) rfl), (wb_2 22 (by decide +kernel) rfl), (wb_1 13 (by decide +kernel) rfl), (wb_2 23 (by decide +kernel) rfl)⟩, by decide +kernel⟩
theorem sSX4_63 : SitS RX4 63 yX4_commonDivisor cX4_commonDivisor 11 (some .long) 2 := ⟨⟨(wb_2 194 (by decide +kernel) rfl), (wb_2 195 (by decide +kernel) rfl), (wb_1 4 (by decide +kernel) rfl), (wb_2 196 (by decide +kernel) rfl)⟩, by decide +kernel⟩
theorem sSX5_9 : SitS RX5 9 yJ6_bitCount_0f7a4 cJ6_bitCount_0f7a4 1 (some .int) 1 := ⟨⟨(wb_2 12 (by decide +kernel) rfl), (wb_2 13 (by decide +kernel) rfl), (wb_1 16 (by decide +kernel) rfl), (wb_2 14 (by decide +kernel) rfl)⟩, by decide +kernel⟩
theorem sSX5_21 : SitS RX5 21 yX5_clear cX5_clear 2 none 1 := ⟨⟨(wb_2 158 (by decide +kernel) rfl), (wb_2 159 (by decide +kernel) rfl), (wb_1 13 (by decide +kernel) rfl), (wb_2 160 (by decide +kernel) rfl)⟩, by decide +kernel⟩
theorem sSX5_27 : SitS RX5 27 yX5_oddTurns cX5_oddTurns 3 (some .boolean) 2 := ⟨⟨(wb_2 21 (by decide +kernel) rfl), (wb_2 22 (by decide +kernel) rfl), (wb_1 13 (by decide +kernel) rfl), (wb_2 23 (by decide +kernel) rfl)⟩, by decide +kernel⟩
theorem sVX5_31 : SitV RX5 31 yX6_blades cX6_blades 1 (some .int) 0 := ⟨⟨(wb_2 5 (by decide +kernel) rfl), (wb_2 6 (by decide +kernel) rfl), (wb_2 7 (by decide +kernel) rfl), (wb_1 2 (by decide +kernel) rfl), (wb_2 8 (by decide +kernel) rfl)⟩, by decide +kernel⟩
theorem sSX5_39 : SitS RX5 39 yX5_signOfBlade cX5_signOfBlade 4 (some .int) 2 := ⟨⟨(wb_3 6 (by decide +kernel) rfl), (wb_2 26 (by decide +kernel) rfl), (wb_1 13 (by decide +kernel) rfl), (wb_2 27 (by decide +kernel) rfl)⟩, by decide +kernel⟩
theorem sSX5_43 : SitS RX5 43 yX5_pushBlade cX5_pushBlade 6 none 3 := ⟨⟨(wb_2 9 (by decide +kernel) rfl), (wb_2 10 (by decide +kernel) rfl), (wb_1 13 (by decide +kernel) rfl), (wb_2 11 (by decide +kernel) rfl)⟩, by decide +kernel⟩
theorem sSX5_51 : SitS RX5 51 yX5_wedgeWithColumn cX5_wedgeWithColumn 11 (some .long) 4 := ⟨⟨(wb_2 18 (by decide +kernel) rfl), (wb_2 19 (by decide +kernel) rfl), (wb_1 13 (by decide +kernel) rfl), (wb_2 20 (by decide +kernel) rfl)⟩, by decide +kernel⟩
theorem sVX6_26 : SitV RX6 26 yX6_startWith cX6_startWith 4 none 1 := ⟨⟨(wb_1 37 (by decide +kernel) rfl), (wb_1 38 (by decide +kernel) rfl), (wb_1 39 (by decide +kernel) rfl), (wb_1 2 (by decide +kernel) rfl), (wb_1 40 (by decide +kernel) rfl)⟩, by decide +kernel⟩
theorem sVX6_40 : SitV RX6 40 yX6_copyScene cX6_copyScene 3 none 1 := ⟨⟨(wb_3 83 (by decide +kernel) rfl), (wb_3 84 (by decide +kernel) rfl), (wb_3 85 (by decide +kernel) rfl), (wb_1 2 (by decide +kernel) rfl), (wb_3 86 (by decide +kernel) rfl)⟩, by decide +kernel⟩
theorem sSX6_44 : SitS RX6 44 yX2_leadOf cX2_leadOf 2 (some .int) 1 := ⟨⟨(wb_1 237 (by decide +kernel) rfl), (wb_1 238 (by decide +kernel) rfl), (wb_1 15 (by decide +kernel) rfl), (wb_1 239 (by decide +kernel) rfl)⟩, by decide +kernel⟩
theorem sVX7_70 : SitV RX7 70 yX3_save cX3_save 2 none 1 := ⟨⟨(wb_3 75 (by decide +kernel) rfl), (wb_3 76 (by decide +kernel) rfl), (wb_3 77 (by decide +kernel) rfl), (wb_1 3 (by decide +kernel) rfl), (wb_3 78 (by decide +kernel) rfl)⟩, by decide +kernel⟩
theorem sVX7_77 : SitV RX7 77 yX6_startWith cX6_startWith 4 none 1 := ⟨⟨(wb_3 88 (by decide +kernel) rfl), (wb_1 38 (by decide +kernel) rfl), (wb_1 39 (by decide +kernel) rfl), (wb_1 2 (by decide +kernel) rfl), (wb_1 40 (by decide +kernel) rfl)⟩, by decide +kernel⟩
theorem sVX7_81 : SitV RX7 81 yX7_requireDirection cX7_requireDirection 2 none 1 := ⟨⟨(wb_3 97 (by decide +kernel) rfl), (wb_3 99 (by decide +kernel) rfl), (wb_p2 (n := 11) 11 (by decide +kernel) rfl), (wb_1 1 (by decide +kernel) rfl), (wb_3 100 (by decide +kernel) rfl)⟩, by decide +kernel⟩
theorem sSX7_89 : SitS RX7 89 yX7_requireSize cX7_requireSize 2 none 2 := ⟨⟨(wb_3 110 (by decide +kernel) rfl), (wb_3 111 (by decide +kernel) rfl), (wb_1 1 (by decide +kernel) rfl), (wb_3 112 (by decide +kernel) rfl)⟩, by decide +kernel⟩
theorem sSX7_97 : SitS RX7 97 yX7_requireSlot cX7_requireSlot 1 none 1 := ⟨⟨(wb_2 224 (by decide +kernel) rfl), (wb_2 225 (by decide +kernel) rfl), (wb_1 1 (by decide +kernel) rfl), (wb_2 226 (by decide +kernel) rfl)⟩, by decide +kernel⟩
theorem sVX7_100 : SitV RX7 100 yX7_requireBlade cX7_requireBlade 2 none 1 := ⟨⟨(wb_3 121 (by decide +kernel) rfl), (wb_3 123 (by decide +kernel) rfl), (wb_p2 (n := 11) 12 (by decide +kernel) rfl), (wb_1 1 (by decide +kernel) rfl), (wb_3 124 (by decide +kernel) rfl)⟩, by decide +kernel⟩
theorem sSX7_107 : SitS RX7 107 yX7_requireSlots cX7_requireSlots 3 none 3 := ⟨⟨(wb_3 135 (by decide +kernel) rfl), (wb_3 136 (by decide +kernel) rfl), (wb_1 1 (by decide +kernel) rfl), (wb_3 137 (by decide +kernel) rfl)⟩, by decide +kernel⟩
theorem sSX7_111 : SitS RX7 111 yX5_addForms cX5_addForms 7 none 4 := ⟨⟨(wb_3 50 (by decide +kernel) rfl), (wb_3 51 (by decide +kernel) rfl), (wb_1 13 (by decide +kernel) rfl), (wb_3 52 (by decide +kernel) rfl)⟩, by decide +kernel⟩
theorem sVX7_117 : SitV RX7 117 yX7_requireFits cX7_requireFits 1 none 0 := ⟨⟨(wb_3 138 (by decide +kernel) rfl), (wb_3 140 (by decide +kernel) rfl), (wb_p2 (n := 11) 13 (by decide +kernel) rfl), (wb_1 1 (by decide +kernel) rfl), (wb_3 141 (by decide +kernel) rfl)⟩, by decide +kernel⟩
theorem sVX7_120 : SitV RX7 120 yX7_storeResult cX7_storeResult 5 (some .int) 2 := ⟨⟨(wb_3 158 (by decide +kernel) rfl), (wb_3 160 (by decide +kernel) rfl), (wb_p2 (n := 11) 14 (by decide +kernel) rfl), (wb_1 1 (by decide +kernel) rfl), (wb_3 161 (by decide +kernel) rfl)⟩, by decide +kernel⟩
theorem sSX7_124 : SitS RX7 124 yX5_multiplyForm cX5_multiplyForm 6 none 4 := ⟨⟨(wb_3 170 (by decide +kernel) rfl), (wb_3 171 (by decide +kernel) rfl), (wb_1 13 (by decide +kernel) rfl), (wb_3 172 (by decide +kernel) rfl)⟩, by decide +kernel⟩
theorem sVX7_127 : SitV RX7 127 yX6_blades cX6_blades 1 (some .int) 0 := ⟨⟨(wb_2 24 (by decide +kernel) rfl), (wb_2 6 (by decide +kernel) rfl), (wb_2 7 (by decide +kernel) rfl), (wb_1 2 (by decide +kernel) rfl), (wb_2 8 (by decide +kernel) rfl)⟩, by decide +kernel⟩
theorem sSX7_131 : SitS RX7 131 yX5_wedgeForms cX5_wedgeForms 8 none 4 := ⟨⟨(wb_2 155 (by decide +kernel) rfl), (wb_2 156 (by decide +kernel) rfl), (wb_1 13 (by decide +kernel) rfl), (wb_2 157 (by decide +kernel) rfl)⟩, by decide +kernel⟩
theorem sSX7_135 : SitS RX7 135 yX5_contractForms cX5_contractForms 11 none 4 := ⟨⟨(wb_3 53 (by decide +kernel) rfl), (wb_3 54 (by decide +kernel) rfl), (wb_1 13 (by decide +kernel) rfl), (wb_3 55 (by decide +kernel) rfl)⟩, by decide +kernel⟩
end
section
theorem sSX7_138 : SitS RX7 138 yX5_starForm cX5_starForm 9 none 3 := ⟨⟨(wb_3 194 (by decide +kernel) rfl), (wb_3 195 (by decide +kernel) rfl), (wb_1 13 (by decide +kernel) rfl), (wb_3 196 (by decide +kernel) rfl)⟩, by decide +kernel⟩
theorem sVX7_142 : SitV RX7 142 yX7_requireGrade cX7_requireGrade 2 none 1 := ⟨⟨(wb_3 32 (by decide +kernel) rfl), (wb_3 34 (by decide +kernel) rfl), (wb_p2 (n := 11) 9 (by decide +kernel) rfl), (wb_1 1 (by decide +kernel) rfl), (wb_3 35 (by decide +kernel) rfl)⟩, by decide +kernel⟩
theorem sSX7_145 : SitS RX7 145 yX5_partOfForm cX5_partOfForm 6 none 4 := ⟨⟨(wb_3 204 (by decide +kernel) rfl), (wb_3 205 (by decide +kernel) rfl), (wb_1 13 (by decide +kernel) rfl), (wb_3 206 (by decide +kernel) rfl)⟩, by decide +kernel⟩
theorem sSX7_148 : SitS RX7 148 yX5_reverseForm cX5_reverseForm 6 none 3 := ⟨⟨(wb_3 214 (by decide +kernel) rfl), (wb_3 215 (by decide +kernel) rfl), (wb_1 13 (by decide +kernel) rfl), (wb_3 216 (by decide +kernel) rfl)⟩, by decide +kernel⟩
theorem sSX7_151 : SitS RX7 151 yX5_pushForm cX5_pushForm 7 none 4 := ⟨⟨(wb_3 56 (by decide +kernel) rfl), (wb_3 57 (by decide +kernel) rfl), (wb_1 13 (by decide +kernel) rfl), (wb_3 58 (by decide +kernel) rfl)⟩, by decide +kernel⟩
theorem sVX7_162 : SitV RX7 162 yX1_read cX1_read 5 (some .int) 3 := ⟨⟨(wb_1 175 (by decide +kernel) rfl), (wb_1 176 (by decide +kernel) rfl), (wb_1 177 (by decide +kernel) rfl), (wb_1 5 (by decide +kernel) rfl), (wb_1 178 (by decide +kernel) rfl)⟩, by decide +kernel⟩
theorem sVX7_166 : SitV RX7 166 yX1_isComplete cX1_isComplete 1 (some .boolean) 0 := ⟨⟨(wb_4 0 (by decide +kernel) rfl), (wb_4 1 (by decide +kernel) rfl), (wb_4 2 (by decide +kernel) rfl), (wb_1 5 (by decide +kernel) rfl), (wb_4 3 (by decide +kernel) rfl)⟩, by decide +kernel⟩
theorem sSX7_181 : SitS RX7 181 yX2_countNonzero cX2_countNonzero 3 (some .int) 1 := ⟨⟨(wb_3 162 (by decide +kernel) rfl), (wb_2 112 (by decide +kernel) rfl), (wb_1 15 (by decide +kernel) rfl), (wb_2 113 (by decide +kernel) rfl)⟩, by decide +kernel⟩
theorem sSX7_187 : SitS RX7 187 yX7_requireSnapshot cX7_requireSnapshot 1 none 1 := ⟨⟨(wb_4 13 (by decide +kernel) rfl), (wb_4 14 (by decide +kernel) rfl), (wb_1 1 (by decide +kernel) rfl), (wb_4 15 (by decide +kernel) rfl)⟩, by decide +kernel⟩
theorem sVX7_190 : SitV RX7 190 yX6_copyScene cX6_copyScene 3 none 1 := ⟨⟨(wb_4 17 (by decide +kernel) rfl), (wb_3 84 (by decide +kernel) rfl), (wb_3 85 (by decide +kernel) rfl), (wb_1 2 (by decide +kernel) rfl), (wb_3 86 (by decide +kernel) rfl)⟩, by decide +kernel⟩
theorem sVX7_193 : SitV RX7 193 yX6_countForms cX6_countForms 3 (some .int) 0 := ⟨⟨(wb_1 233 (by decide +kernel) rfl), (wb_1 234 (by decide +kernel) rfl), (wb_1 235 (by decide +kernel) rfl), (wb_1 2 (by decide +kernel) rfl), (wb_1 236 (by decide +kernel) rfl)⟩, by decide +kernel⟩
theorem sVX7_203 : SitV RX7 203 yX3_dropInto cX3_dropInto 2 none 1 := ⟨⟨(wb_4 34 (by decide +kernel) rfl), (wb_4 35 (by decide +kernel) rfl), (wb_4 36 (by decide +kernel) rfl), (wb_1 3 (by decide +kernel) rfl), (wb_4 37 (by decide +kernel) rfl)⟩, by decide +kernel⟩
theorem sSX7_208 : SitS RX7 208 yX2_property cX2_property 2 (some .int) 2 := ⟨⟨(wb_2 108 (by decide +kernel) rfl), (wb_2 109 (by decide +kernel) rfl), (wb_1 15 (by decide +kernel) rfl), (wb_2 110 (by decide +kernel) rfl)⟩, by decide +kernel⟩
theorem sSX7_212 : SitS RX7 212 yX5_innerOfForms cX5_innerOfForms 8 (some .long) 3 := ⟨⟨(wb_3 3 (by decide +kernel) rfl), (wb_3 4 (by decide +kernel) rfl), (wb_1 13 (by decide +kernel) rfl), (wb_3 5 (by decide +kernel) rfl)⟩, by decide +kernel⟩
theorem sVX7_218 : SitV RX7 218 yX7_decomposableAsTold cX7_decomposableAsTold 5 (some .int) 1 := ⟨⟨(wb_2 140 (by decide +kernel) rfl), (wb_2 142 (by decide +kernel) rfl), (wb_p1 (n := 11) 15 (by decide +kernel) rfl), (wb_1 1 (by decide +kernel) rfl), (wb_2 143 (by decide +kernel) rfl)⟩, by decide +kernel⟩
theorem sVX7_222 : SitV RX7 222 yX7_decomposableByAnnihilator cX7_decomposableByAnnihilator 5 (some .int) 1 := ⟨⟨(wb_2 165 (by decide +kernel) rfl), (wb_2 167 (by decide +kernel) rfl), (wb_p2 (n := 11) 2 (by decide +kernel) rfl), (wb_1 1 (by decide +kernel) rfl), (wb_2 168 (by decide +kernel) rfl)⟩, by decide +kernel⟩
theorem sSX7_225 : SitS RX7 225 yX7_requirePlace cX7_requirePlace 1 none 1 := ⟨⟨(wb_4 72 (by decide +kernel) rfl), (wb_4 73 (by decide +kernel) rfl), (wb_1 1 (by decide +kernel) rfl), (wb_4 74 (by decide +kernel) rfl)⟩, by decide +kernel⟩
theorem sVX7_228 : SitV RX7 228 yX7_countFactors cX7_countFactors 2 (some .int) 1 := ⟨⟨(wb_4 76 (by decide +kernel) rfl), (wb_4 78 (by decide +kernel) rfl), (wb_p2 (n := 11) 15 (by decide +kernel) rfl), (wb_1 1 (by decide +kernel) rfl), (wb_4 79 (by decide +kernel) rfl)⟩, by decide +kernel⟩
theorem sSX7_232 : SitS RX7 232 yX2_factorNumber cX2_factorNumber 8 (some .int) 3 := ⟨⟨(wb_2 216 (by decide +kernel) rfl), (wb_2 217 (by decide +kernel) rfl), (wb_1 15 (by decide +kernel) rfl), (wb_2 218 (by decide +kernel) rfl)⟩, by decide +kernel⟩
theorem sVX7_235 : SitV RX7 235 yX4_find cX4_find 4 (some .int) 2 := ⟨⟨(wb_2 169 (by decide +kernel) rfl), (wb_2 170 (by decide +kernel) rfl), (wb_2 171 (by decide +kernel) rfl), (wb_1 4 (by decide +kernel) rfl), (wb_2 172 (by decide +kernel) rfl)⟩, by decide +kernel⟩
theorem sVX7_238 : SitV RX7 238 yX4_number cX4_number 3 (some .int) 2 := ⟨⟨(wb_2 208 (by decide +kernel) rfl), (wb_2 209 (by decide +kernel) rfl), (wb_2 210 (by decide +kernel) rfl), (wb_1 4 (by decide +kernel) rfl), (wb_2 211 (by decide +kernel) rfl)⟩, by decide +kernel⟩
theorem sVX7_243 : SitV RX7 243 yX7_firstTooLarge cX7_firstTooLarge 2 (some .int) 0 := ⟨⟨(wb_3 60 (by decide +kernel) rfl), (wb_3 62 (by decide +kernel) rfl), (wb_p2 (n := 11) 10 (by decide +kernel) rfl), (wb_1 1 (by decide +kernel) rfl), (wb_3 63 (by decide +kernel) rfl)⟩, by decide +kernel⟩
theorem sSX7_246 : SitS RX7 246 yX2_areSame cX2_areSame 3 (some .boolean) 2 := ⟨⟨(wb_3 11 (by decide +kernel) rfl), (wb_3 12 (by decide +kernel) rfl), (wb_1 15 (by decide +kernel) rfl), (wb_3 13 (by decide +kernel) rfl)⟩, by decide +kernel⟩
theorem sSX7_250 : SitS RX7 250 yX2_areProportional cX2_areProportional 4 (some .boolean) 2 := ⟨⟨(wb_3 14 (by decide +kernel) rfl), (wb_3 15 (by decide +kernel) rfl), (wb_1 15 (by decide +kernel) rfl), (wb_3 16 (by decide +kernel) rfl)⟩, by decide +kernel⟩
theorem sVX7_253 : SitV RX7 253 yX7_resultIsZero cX7_resultIsZero 2 (some .boolean) 0 := ⟨⟨(wb_2 161 (by decide +kernel) rfl), (wb_2 163 (by decide +kernel) rfl), (wb_p2 (n := 11) 1 (by decide +kernel) rfl), (wb_1 1 (by decide +kernel) rfl), (wb_2 164 (by decide +kernel) rfl)⟩, by decide +kernel⟩
theorem sVX7_259 : SitV RX7 259 yX7_signOrZero cX7_signOrZero 2 (some .int) 1 := ⟨⟨(wb_1 229 (by decide +kernel) rfl), (wb_1 231 (by decide +kernel) rfl), (wb_p1 (n := 11) 10 (by decide +kernel) rfl), (wb_1 1 (by decide +kernel) rfl), (wb_1 232 (by decide +kernel) rfl)⟩, by decide +kernel⟩
theorem sSX7_262 : SitS RX7 262 yX5_determinant cX5_determinant 3 (some .int) 2 := ⟨⟨(wb_2 2 (by decide +kernel) rfl), (wb_2 3 (by decide +kernel) rfl), (wb_1 13 (by decide +kernel) rfl), (wb_2 4 (by decide +kernel) rfl)⟩, by decide +kernel⟩
theorem sSX7_266 : SitS RX7 266 yX5_signOfBlade cX5_signOfBlade 4 (some .int) 2 := ⟨⟨(wb_2 25 (by decide +kernel) rfl), (wb_2 26 (by decide +kernel) rfl), (wb_1 13 (by decide +kernel) rfl), (wb_2 27 (by decide +kernel) rfl)⟩, by decide +kernel⟩
theorem sVX7_269 : SitV RX7 269 yX7_countTaken cX7_countTaken 3 (some .int) 0 := ⟨⟨(wb_2 28 (by decide +kernel) rfl), (wb_2 30 (by decide +kernel) rfl), (wb_p1 (n := 11) 11 (by decide +kernel) rfl), (wb_1 1 (by decide +kernel) rfl), (wb_2 31 (by decide +kernel) rfl)⟩, by decide +kernel⟩
theorem sSX7_274 : SitS RX7 274 yX2_densityOf cX2_densityOf 7 (some .float) 2 := ⟨⟨(wb_3 21 (by decide +kernel) rfl), (wb_3 22 (by decide +kernel) rfl), (wb_1 15 (by decide +kernel) rfl), (wb_3 23 (by decide +kernel) rfl)⟩, by decide +kernel⟩
theorem sSX7_278 : SitS RX7 278 yX2_shareOf cX2_shareOf 9 (some .double) 2 := ⟨⟨(wb_3 37 (by decide +kernel) rfl), (wb_3 38 (by decide +kernel) rfl), (wb_1 15 (by decide +kernel) rfl), (wb_3 39 (by decide +kernel) rfl)⟩, by decide +kernel⟩
theorem sVX7_284 : SitV RX7 284 yX7_hashCounts cX7_hashCounts 6 (some .long) 1 := ⟨⟨(wb_1 220 (by decide +kernel) rfl), (wb_1 222 (by decide +kernel) rfl), (wb_p1 (n := 11) 9 (by decide +kernel) rfl), (wb_1 1 (by decide +kernel) rfl), (wb_1 223 (by decide +kernel) rfl)⟩, by decide +kernel⟩
theorem sVX7_288 : SitV RX7 288 yX7_hashMatrix cX7_hashMatrix 7 (some .long) 1 := ⟨⟨(wb_2 100 (by decide +kernel) rfl), (wb_2 102 (by decide +kernel) rfl), (wb_p1 (n := 11) 13 (by decide +kernel) rfl), (wb_1 1 (by decide +kernel) rfl), (wb_2 103 (by decide +kernel) rfl)⟩, by decide +kernel⟩
theorem sVX7_291 : SitV RX7 291 yX7_hashSlot cX7_hashSlot 8 (some .long) 2 := ⟨⟨(wb_2 104 (by decide +kernel) rfl), (wb_2 106 (by decide +kernel) rfl), (wb_p1 (n := 11) 14 (by decide +kernel) rfl), (wb_1 1 (by decide +kernel) rfl), (wb_2 107 (by decide +kernel) rfl)⟩, by decide +kernel⟩
theorem sVX7_297 : SitV RX7 297 yX7_refused cX7_refused 4 (some .int) 3 := ⟨⟨(wb_3 46 (by decide +kernel) rfl), (wb_3 47 (by decide +kernel) rfl), (wb_3 48 (by decide +kernel) rfl), (wb_1 1 (by decide +kernel) rfl), (wb_3 49 (by decide +kernel) rfl)⟩, by decide +kernel⟩
theorem sSX7_324 : SitS RX7 324 yX2_gradeOf cX2_gradeOf 2 (some .int) 1 := ⟨⟨(wb_2 144 (by decide +kernel) rfl), (wb_2 115 (by decide +kernel) rfl), (wb_1 15 (by decide +kernel) rfl), (wb_2 116 (by decide +kernel) rfl)⟩, by decide +kernel⟩
theorem sSX7_327 : SitS RX7 327 yJ6_bitCount_0f7a4 cJ6_bitCount_0f7a4 1 (some .int) 1 := ⟨⟨(wb_2 146 (by decide +kernel) rfl), (wb_2 13 (by decide +kernel) rfl), (wb_1 16 (by decide +kernel) rfl), (wb_2 14 (by decide +kernel) rfl)⟩, by decide +kernel⟩
theorem sVX7_332 : SitV RX7 332 yX7_wedgeWithPartnerIsZero cX7_wedgeWithPartnerIsZero 4 (some .boolean) 2 := ⟨⟨(wb_2 147 (by decide +kernel) rfl), (wb_2 149 (by decide +kernel) rfl), (wb_p2 (n := 11) 0 (by decide +kernel) rfl), (wb_1 1 (by decide +kernel) rfl), (wb_2 150 (by decide +kernel) rfl)⟩, by decide +kernel⟩
theorem sSX7_336 : SitS RX7 336 yX2_partnerNumber cX2_partnerNumber 5 (some .int) 3 := ⟨⟨(wb_2 151 (by decide +kernel) rfl), (wb_2 152 (by decide +kernel) rfl), (wb_1 15 (by decide +kernel) rfl), (wb_2 153 (by decide +kernel) rfl)⟩, by decide +kernel⟩
theorem sVX7_339 : SitV RX7 339 yX7_count cX7_count 2 (some .int) 1 := ⟨⟨(wb_1 225 (by decide +kernel) rfl), (wb_1 226 (by decide +kernel) rfl), (wb_1 227 (by decide +kernel) rfl), (wb_1 1 (by decide +kernel) rfl), (wb_1 228 (by decide +kernel) rfl)⟩, by decide +kernel⟩
theorem sVX7_342 : SitV RX7 342 yX7_hashAnnihilator cX7_hashAnnihilator 9 (some .long) 2 := ⟨⟨(wb_2 204 (by decide +kernel) rfl), (wb_2 206 (by decide +kernel) rfl), (wb_p2 (n := 11) 7 (by decide +kernel) rfl), (wb_1 1 (by decide +kernel) rfl), (wb_2 207 (by decide +kernel) rfl)⟩, by decide +kernel⟩
theorem sVX7_346 : SitV RX7 346 yX7_hashFactors cX7_hashFactors 9 (some .long) 2 := ⟨⟨(wb_2 212 (by decide +kernel) rfl), (wb_2 214 (by decide +kernel) rfl), (wb_p2 (n := 11) 8 (by decide +kernel) rfl), (wb_1 1 (by decide +kernel) rfl), (wb_2 215 (by decide +kernel) rfl)⟩, by decide +kernel⟩
theorem sVX7_349 : SitV RX7 349 yX7_inner cX7_inner 3 (some .long) 2 := ⟨⟨(wb_2 220 (by decide +kernel) rfl), (wb_2 221 (by decide +kernel) rfl), (wb_2 222 (by decide +kernel) rfl), (wb_1 1 (by decide +kernel) rfl), (wb_2 223 (by decide +kernel) rfl)⟩, by decide +kernel⟩
theorem sVX7_353 : SitV RX7 353 yX7_compare cX7_compare 5 (some .int) 2 := ⟨⟨(wb_3 7 (by decide +kernel) rfl), (wb_3 8 (by decide +kernel) rfl), (wb_3 9 (by decide +kernel) rfl), (wb_1 1 (by decide +kernel) rfl), (wb_3 10 (by decide +kernel) rfl)⟩, by decide +kernel⟩
theorem sVX7_356 : SitV RX7 356 yX7_density cX7_density 2 (some .float) 1 := ⟨⟨(wb_3 17 (by decide +kernel) rfl), (wb_3 18 (by decide +kernel) rfl), (wb_3 19 (by decide +kernel) rfl), (wb_1 1 (by decide +kernel) rfl), (wb_3 20 (by decide +kernel) rfl)⟩, by decide +kernel⟩
theorem sSX7_360 : SitS RX7 360 yX0_ofFloat cX0_ofFloat 4 (some .int) 1 := ⟨⟨(wb_3 24 (by decide +kernel) rfl), (wb_3 25 (by decide +kernel) rfl), (wb_1 18 (by decide +kernel) rfl), (wb_3 26 (by decide +kernel) rfl)⟩, by decide +kernel⟩
theorem sVX7_366 : SitV RX7 366 yX7_share cX7_share 3 (some .double) 2 := ⟨⟨(wb_3 28 (by decide +kernel) rfl), (wb_3 29 (by decide +kernel) rfl), (wb_3 30 (by decide +kernel) rfl), (wb_1 1 (by decide +kernel) rfl), (wb_3 31 (by decide +kernel) rfl)⟩, by decide +kernel⟩
theorem sSX7_370 : SitS RX7 370 yX0_ofDouble cX0_ofDouble 7 (some .long) 1 := ⟨⟨(wb_3 40 (by decide +kernel) rfl), (wb_3 41 (by decide +kernel) rfl), (wb_1 18 (by decide +kernel) rfl), (wb_3 42 (by decide +kernel) rfl)⟩, by decide +kernel⟩
theorem sVX8_44 : SitV RX8 44 yX8_layPlain cX8_layPlain 2 none 0 := ⟨⟨(wb_4 127 (by decide +kernel) rfl), (wb_4 129 (by decide +kernel) rfl), (wb_p3 (n := 24) 0 (by decide +kernel) rfl), (wb_1 6 (by decide +kernel) rfl), (wb_4 130 (by decide +kernel) rfl)⟩, by decide +kernel⟩
theorem sSX8_54 : SitS RX8 54 yX8_in cX8_in 3 (some .boolean) 3 := ⟨⟨(wb_4 212 (by decide +kernel) rfl), (wb_4 213 (by decide +kernel) rfl), (wb_1 6 (by decide +kernel) rfl), (wb_4 214 (by decide +kernel) rfl)⟩, by decide +kernel⟩
theorem sVX8_58 : SitV RX8 58 yX8_blades cX8_blades 1 (some .int) 0 := ⟨⟨(wb_5 6 (by decide +kernel) rfl), (wb_5 8 (by decide +kernel) rfl), (wb_p3 (n := 24) 5 (by decide +kernel) rfl), (wb_1 6 (by decide +kernel) rfl), (wb_5 9 (by decide +kernel) rfl)⟩, by decide +kernel⟩
theorem sSX8_62 : SitS RX8 62 yX8_grade cX8_grade 3 (some .int) 1 := ⟨⟨(wb_5 38 (by decide +kernel) rfl), (wb_5 39 (by decide +kernel) rfl), (wb_1 6 (by decide +kernel) rfl), (wb_5 40 (by decide +kernel) rfl)⟩, by decide +kernel⟩
theorem sSX8_66 : SitS RX8 66 yX8_turns cX8_turns 4 (some .int) 2 := ⟨⟨(wb_5 35 (by decide +kernel) rfl), (wb_5 36 (by decide +kernel) rfl), (wb_1 6 (by decide +kernel) rfl), (wb_5 37 (by decide +kernel) rfl)⟩, by decide +kernel⟩
theorem sVX8_70 : SitV RX8 70 yX8_fails cX8_fails 2 (some .int) 1 := ⟨⟨(wb_4 215 (by decide +kernel) rfl), (wb_4 217 (by decide +kernel) rfl), (wb_p3 (n := 24) 1 (by decide +kernel) rfl), (wb_1 6 (by decide +kernel) rfl), (wb_4 218 (by decide +kernel) rfl)⟩, by decide +kernel⟩
theorem sVX8_73 : SitV RX8 73 yX8_save cX8_save 2 none 0 := ⟨⟨(wb_4 219 (by decide +kernel) rfl), (wb_4 221 (by decide +kernel) rfl), (wb_p3 (n := 24) 2 (by decide +kernel) rfl), (wb_1 6 (by decide +kernel) rfl), (wb_4 222 (by decide +kernel) rfl)⟩, by decide +kernel⟩
theorem sVX8_76 : SitV RX8 76 yX8_isDirection cX8_isDirection 2 (some .boolean) 1 := ⟨⟨(wb_4 227 (by decide +kernel) rfl), (wb_4 229 (by decide +kernel) rfl), (wb_p3 (n := 24) 3 (by decide +kernel) rfl), (wb_1 6 (by decide +kernel) rfl), (wb_4 230 (by decide +kernel) rfl)⟩, by decide +kernel⟩
end
section
theorem sSX8_80 : SitS RX8 80 yX8_isSlot cX8_isSlot 1 (some .boolean) 1 := ⟨⟨(wb_4 239 (by decide +kernel) rfl), (wb_5 0 (by decide +kernel) rfl), (wb_1 6 (by decide +kernel) rfl), (wb_5 1 (by decide +kernel) rfl)⟩, by decide +kernel⟩
theorem sVX8_83 : SitV RX8 83 yX8_isBlade cX8_isBlade 2 (some .boolean) 1 := ⟨⟨(wb_5 2 (by decide +kernel) rfl), (wb_5 4 (by decide +kernel) rfl), (wb_p3 (n := 24) 4 (by decide +kernel) rfl), (wb_1 6 (by decide +kernel) rfl), (wb_5 5 (by decide +kernel) rfl)⟩, by decide +kernel⟩
theorem sVX8_88 : SitV RX8 88 yX8_at cX8_at 3 (some .int) 2 := ⟨⟨(wb_5 12 (by decide +kernel) rfl), (wb_5 14 (by decide +kernel) rfl), (wb_p3 (n := 24) 6 (by decide +kernel) rfl), (wb_1 6 (by decide +kernel) rfl), (wb_5 15 (by decide +kernel) rfl)⟩, by decide +kernel⟩
theorem sSX8_91 : SitS RX8 91 yX8_way cX8_way 2 (some .int) 2 := ⟨⟨(wb_5 32 (by decide +kernel) rfl), (wb_5 33 (by decide +kernel) rfl), (wb_1 6 (by decide +kernel) rfl), (wb_5 34 (by decide +kernel) rfl)⟩, by decide +kernel⟩
theorem sVX8_94 : SitV RX8 94 yX8_signOf cX8_signOf 4 (some .int) 1 := ⟨⟨(wb_5 45 (by decide +kernel) rfl), (wb_5 47 (by decide +kernel) rfl), (wb_p3 (n := 24) 11 (by decide +kernel) rfl), (wb_1 6 (by decide +kernel) rfl), (wb_5 48 (by decide +kernel) rfl)⟩, by decide +kernel⟩
theorem sVX8_97 : SitV RX8 97 yX8_growBy cX8_growBy 7 none 1 := ⟨⟨(wb_5 57 (by decide +kernel) rfl), (wb_5 59 (by decide +kernel) rfl), (wb_p3 (n := 24) 14 (by decide +kernel) rfl), (wb_1 6 (by decide +kernel) rfl), (wb_5 60 (by decide +kernel) rfl)⟩, by decide +kernel⟩
theorem sVX8_101 : SitV RX8 101 yX8_layGrown cX8_layGrown 3 none 1 := ⟨⟨(wb_5 53 (by decide +kernel) rfl), (wb_5 55 (by decide +kernel) rfl), (wb_p3 (n := 24) 13 (by decide +kernel) rfl), (wb_1 6 (by decide +kernel) rfl), (wb_5 56 (by decide +kernel) rfl)⟩, by decide +kernel⟩
theorem sVX8_104 : SitV RX8 104 yX8_laySlots cX8_laySlots 4 none 2 := ⟨⟨(wb_5 24 (by decide +kernel) rfl), (wb_5 26 (by decide +kernel) rfl), (wb_p3 (n := 24) 8 (by decide +kernel) rfl), (wb_1 6 (by decide +kernel) rfl), (wb_5 27 (by decide +kernel) rfl)⟩, by decide +kernel⟩
theorem sVX8_108 : SitV RX8 108 yX8_layWedge cX8_layWedge 5 none 0 := ⟨⟨(wb_5 28 (by decide +kernel) rfl), (wb_5 30 (by decide +kernel) rfl), (wb_p3 (n := 24) 9 (by decide +kernel) rfl), (wb_1 6 (by decide +kernel) rfl), (wb_5 31 (by decide +kernel) rfl)⟩, by decide +kernel⟩
theorem sVX8_111 : SitV RX8 111 yX8_layContraction cX8_layContraction 5 none 0 := ⟨⟨(wb_5 41 (by decide +kernel) rfl), (wb_5 43 (by decide +kernel) rfl), (wb_p3 (n := 24) 10 (by decide +kernel) rfl), (wb_1 6 (by decide +kernel) rfl), (wb_5 44 (by decide +kernel) rfl)⟩, by decide +kernel⟩
theorem sVX8_114 : SitV RX8 114 yX8_layPush cX8_layPush 3 none 0 := ⟨⟨(wb_5 49 (by decide +kernel) rfl), (wb_5 51 (by decide +kernel) rfl), (wb_p3 (n := 24) 12 (by decide +kernel) rfl), (wb_1 6 (by decide +kernel) rfl), (wb_5 52 (by decide +kernel) rfl)⟩, by decide +kernel⟩
theorem sVX8_122 : SitV RX8 122 yX8_many cX8_many 4 (some .int) 1 := ⟨⟨(wb_5 76 (by decide +kernel) rfl), (wb_5 78 (by decide +kernel) rfl), (wb_p4 (n := 24) 2 (by decide +kernel) rfl), (wb_1 6 (by decide +kernel) rfl), (wb_5 79 (by decide +kernel) rfl)⟩, by decide +kernel⟩
theorem sVX8_125 : SitV RX8 125 yX8_beyond cX8_beyond 2 (some .int) 0 := ⟨⟨(wb_5 65 (by decide +kernel) rfl), (wb_5 67 (by decide +kernel) rfl), (wb_p4 (n := 24) 0 (by decide +kernel) rfl), (wb_1 6 (by decide +kernel) rfl), (wb_5 68 (by decide +kernel) rfl)⟩, by decide +kernel⟩
theorem sVX8_128 : SitV RX8 128 yX8_keep cX8_keep 4 (some .int) 2 := ⟨⟨(wb_5 72 (by decide +kernel) rfl), (wb_5 74 (by decide +kernel) rfl), (wb_p4 (n := 24) 1 (by decide +kernel) rfl), (wb_1 6 (by decide +kernel) rfl), (wb_5 75 (by decide +kernel) rfl)⟩, by decide +kernel⟩
theorem sVX8_131 : SitV RX8 131 yX8_layBy cX8_layBy 5 none 3 := ⟨⟨(wb_5 20 (by decide +kernel) rfl), (wb_5 22 (by decide +kernel) rfl), (wb_p3 (n := 24) 7 (by decide +kernel) rfl), (wb_1 6 (by decide +kernel) rfl), (wb_5 23 (by decide +kernel) rfl)⟩, by decide +kernel⟩
theorem sVX8_135 : SitV RX8 135 yX8_keepOr cX8_keepOr 4 (some .int) 3 := ⟨⟨(wb_5 61 (by decide +kernel) rfl), (wb_5 63 (by decide +kernel) rfl), (wb_p3 (n := 24) 15 (by decide +kernel) rfl), (wb_1 6 (by decide +kernel) rfl), (wb_5 64 (by decide +kernel) rfl)⟩, by decide +kernel⟩
theorem sVX8_157 : SitV RX8 157 yX8_addTerm cX8_addTerm 2 none 0 := ⟨⟨(wb_5 136 (by decide +kernel) rfl), (wb_5 138 (by decide +kernel) rfl), (wb_p4 (n := 24) 7 (by decide +kernel) rfl), (wb_1 6 (by decide +kernel) rfl), (wb_5 139 (by decide +kernel) rfl)⟩, by decide +kernel⟩
theorem sVX8_160 : SitV RX8 160 yX8_beginTerm cX8_beginTerm 2 (some .int) 1 := ⟨⟨(wb_5 128 (by decide +kernel) rfl), (wb_5 130 (by decide +kernel) rfl), (wb_p4 (n := 24) 5 (by decide +kernel) rfl), (wb_1 6 (by decide +kernel) rfl), (wb_5 131 (by decide +kernel) rfl)⟩, by decide +kernel⟩
theorem sVX8_163 : SitV RX8 163 yX8_endTerm cX8_endTerm 2 (some .int) 1 := ⟨⟨(wb_5 132 (by decide +kernel) rfl), (wb_5 134 (by decide +kernel) rfl), (wb_p4 (n := 24) 6 (by decide +kernel) rfl), (wb_1 6 (by decide +kernel) rfl), (wb_5 135 (by decide +kernel) rfl)⟩, by decide +kernel⟩
theorem sVX8_166 : SitV RX8 166 yX8_nextState cX8_nextState 5 (some .int) 2 := ⟨⟨(wb_5 124 (by decide +kernel) rfl), (wb_5 126 (by decide +kernel) rfl), (wb_p4 (n := 24) 4 (by decide +kernel) rfl), (wb_1 6 (by decide +kernel) rfl), (wb_5 127 (by decide +kernel) rfl)⟩, by decide +kernel⟩
theorem sVX8_176 : SitV RX8 176 yX8_read cX8_read 5 none 0 := ⟨⟨(wb_5 120 (by decide +kernel) rfl), (wb_5 122 (by decide +kernel) rfl), (wb_p4 (n := 24) 3 (by decide +kernel) rfl), (wb_1 6 (by decide +kernel) rfl), (wb_5 123 (by decide +kernel) rfl)⟩, by decide +kernel⟩
theorem sSX8_179 : SitS RX8 179 yX8_kept cX8_kept 1 (some .int) 1 := ⟨⟨(wb_5 148 (by decide +kernel) rfl), (wb_5 149 (by decide +kernel) rfl), (wb_1 6 (by decide +kernel) rfl), (wb_5 150 (by decide +kernel) rfl)⟩, by decide +kernel⟩
theorem sVX8_182 : SitV RX8 182 yX8_forms cX8_forms 3 (some .int) 0 := ⟨⟨(wb_5 151 (by decide +kernel) rfl), (wb_5 153 (by decide +kernel) rfl), (wb_p4 (n := 24) 8 (by decide +kernel) rfl), (wb_1 6 (by decide +kernel) rfl), (wb_5 154 (by decide +kernel) rfl)⟩, by decide +kernel⟩
theorem sVX8_185 : SitV RX8 185 yX8_lowest cX8_lowest 4 (some .int) 1 := ⟨⟨(wb_5 179 (by decide +kernel) rfl), (wb_5 181 (by decide +kernel) rfl), (wb_p4 (n := 24) 11 (by decide +kernel) rfl), (wb_1 6 (by decide +kernel) rfl), (wb_5 182 (by decide +kernel) rfl)⟩, by decide +kernel⟩
theorem sVX8_188 : SitV RX8 188 yX8_highest cX8_highest 4 (some .int) 1 := ⟨⟨(wb_5 183 (by decide +kernel) rfl), (wb_5 185 (by decide +kernel) rfl), (wb_p4 (n := 24) 12 (by decide +kernel) rfl), (wb_1 6 (by decide +kernel) rfl), (wb_5 186 (by decide +kernel) rfl)⟩, by decide +kernel⟩
theorem sVX8_191 : SitV RX8 191 yX8_gradeOf cX8_gradeOf 2 (some .int) 1 := ⟨⟨(wb_5 175 (by decide +kernel) rfl), (wb_5 177 (by decide +kernel) rfl), (wb_p4 (n := 24) 10 (by decide +kernel) rfl), (wb_1 6 (by decide +kernel) rfl), (wb_5 178 (by decide +kernel) rfl)⟩, by decide +kernel⟩
theorem sVX8_194 : SitV RX8 194 yX8_greatest cX8_greatest 5 (some .int) 1 := ⟨⟨(wb_5 187 (by decide +kernel) rfl), (wb_5 189 (by decide +kernel) rfl), (wb_p4 (n := 24) 13 (by decide +kernel) rfl), (wb_1 6 (by decide +kernel) rfl), (wb_5 190 (by decide +kernel) rfl)⟩, by decide +kernel⟩
theorem sVX8_197 : SitV RX8 197 yX8_lead cX8_lead 3 (some .int) 1 := ⟨⟨(wb_5 191 (by decide +kernel) rfl), (wb_5 193 (by decide +kernel) rfl), (wb_p4 (n := 24) 14 (by decide +kernel) rfl), (wb_1 6 (by decide +kernel) rfl), (wb_5 194 (by decide +kernel) rfl)⟩, by decide +kernel⟩
theorem sVX8_200 : SitV RX8 200 yX8_directions cX8_directions 4 (some .int) 1 := ⟨⟨(wb_5 195 (by decide +kernel) rfl), (wb_5 197 (by decide +kernel) rfl), (wb_p4 (n := 24) 15 (by decide +kernel) rfl), (wb_1 6 (by decide +kernel) rfl), (wb_5 198 (by decide +kernel) rfl)⟩, by decide +kernel⟩
theorem sVX8_203 : SitV RX8 203 yX8_formOf cX8_formOf 3 (some .int) 2 := ⟨⟨(wb_5 171 (by decide +kernel) rfl), (wb_5 173 (by decide +kernel) rfl), (wb_p4 (n := 24) 9 (by decide +kernel) rfl), (wb_1 6 (by decide +kernel) rfl), (wb_5 174 (by decide +kernel) rfl)⟩, by decide +kernel⟩
theorem sVX8_206 : SitV RX8 206 yX8_innerOf cX8_innerOf 6 (some .long) 2 := ⟨⟨(wb_5 203 (by decide +kernel) rfl), (wb_5 205 (by decide +kernel) rfl), (wb_p5 (n := 24) 0 (by decide +kernel) rfl), (wb_1 6 (by decide +kernel) rfl), (wb_5 206 (by decide +kernel) rfl)⟩, by decide +kernel⟩
theorem sVX8_210 : SitV RX8 210 yX8_vector cX8_vector 4 (some .long) 3 := ⟨⟨(wb_5 219 (by decide +kernel) rfl), (wb_5 221 (by decide +kernel) rfl), (wb_p5 (n := 24) 3 (by decide +kernel) rfl), (wb_1 6 (by decide +kernel) rfl), (wb_5 222 (by decide +kernel) rfl)⟩, by decide +kernel⟩
theorem sVX8_214 : SitV RX8 214 yX8_isResultEmpty cX8_isResultEmpty 2 (some .boolean) 0 := ⟨⟨(wb_5 223 (by decide +kernel) rfl), (wb_5 225 (by decide +kernel) rfl), (wb_p5 (n := 24) 4 (by decide +kernel) rfl), (wb_1 6 (by decide +kernel) rfl), (wb_5 226 (by decide +kernel) rfl)⟩, by decide +kernel⟩
theorem sVX8_225 : SitV RX8 225 yX8_layLines cX8_layLines 6 none 1 := ⟨⟨(wb_5 239 (by decide +kernel) rfl), (wb_6 1 (by decide +kernel) rfl), (wb_p5 (n := 24) 8 (by decide +kernel) rfl), (wb_1 6 (by decide +kernel) rfl), (wb_6 2 (by decide +kernel) rfl)⟩, by decide +kernel⟩
theorem sVX8_228 : SitV RX8 228 yX8_exchange cX8_exchange 6 none 2 := ⟨⟨(wb_6 3 (by decide +kernel) rfl), (wb_6 5 (by decide +kernel) rfl), (wb_p5 (n := 24) 9 (by decide +kernel) rfl), (wb_1 6 (by decide +kernel) rfl), (wb_6 6 (by decide +kernel) rfl)⟩, by decide +kernel⟩
theorem sVX8_231 : SitV RX8 231 yX8_clearColumn cX8_clearColumn 10 none 2 := ⟨⟨(wb_6 7 (by decide +kernel) rfl), (wb_6 9 (by decide +kernel) rfl), (wb_p5 (n := 24) 10 (by decide +kernel) rfl), (wb_1 6 (by decide +kernel) rfl), (wb_6 10 (by decide +kernel) rfl)⟩, by decide +kernel⟩
theorem sVX8_235 : SitV RX8 235 yX8_isAnnihilatorTold cX8_isAnnihilatorTold 2 (some .boolean) 1 := ⟨⟨(wb_5 231 (by decide +kernel) rfl), (wb_5 233 (by decide +kernel) rfl), (wb_p5 (n := 24) 6 (by decide +kernel) rfl), (wb_1 6 (by decide +kernel) rfl), (wb_5 234 (by decide +kernel) rfl)⟩, by decide +kernel⟩
theorem sVX8_238 : SitV RX8 238 yX8_solve cX8_solve 4 none 1 := ⟨⟨(wb_5 235 (by decide +kernel) rfl), (wb_5 237 (by decide +kernel) rfl), (wb_p5 (n := 24) 7 (by decide +kernel) rfl), (wb_1 6 (by decide +kernel) rfl), (wb_5 238 (by decide +kernel) rfl)⟩, by decide +kernel⟩
theorem sVX8_241 : SitV RX8 241 yX8_headOf cX8_headOf 4 (some .int) 1 := ⟨⟨(wb_6 35 (by decide +kernel) rfl), (wb_6 37 (by decide +kernel) rfl), (wb_p5 (n := 24) 14 (by decide +kernel) rfl), (wb_1 6 (by decide +kernel) rfl), (wb_6 38 (by decide +kernel) rfl)⟩, by decide +kernel⟩
theorem sVX8_244 : SitV RX8 244 yX8_rawOf cX8_rawOf 3 (some .long) 2 := ⟨⟨(wb_6 39 (by decide +kernel) rfl), (wb_6 41 (by decide +kernel) rfl), (wb_p5 (n := 24) 15 (by decide +kernel) rfl), (wb_1 6 (by decide +kernel) rfl), (wb_6 42 (by decide +kernel) rfl)⟩, by decide +kernel⟩
theorem sSX8_247 : SitS RX8 247 yX8_divisor cX8_divisor 10 (some .long) 2 := ⟨⟨(wb_6 43 (by decide +kernel) rfl), (wb_6 44 (by decide +kernel) rfl), (wb_1 6 (by decide +kernel) rfl), (wb_6 45 (by decide +kernel) rfl)⟩, by decide +kernel⟩
theorem sVX8_251 : SitV RX8 251 yX8_isPure cX8_isPure 6 (some .boolean) 2 := ⟨⟨(wb_5 215 (by decide +kernel) rfl), (wb_5 217 (by decide +kernel) rfl), (wb_p5 (n := 24) 2 (by decide +kernel) rfl), (wb_1 6 (by decide +kernel) rfl), (wb_5 218 (by decide +kernel) rfl)⟩, by decide +kernel⟩
theorem sVX8_255 : SitV RX8 255 yX8_annihilatorOf cX8_annihilatorOf 2 (some .int) 1 := ⟨⟨(wb_5 227 (by decide +kernel) rfl), (wb_5 229 (by decide +kernel) rfl), (wb_p5 (n := 24) 5 (by decide +kernel) rfl), (wb_1 6 (by decide +kernel) rfl), (wb_5 230 (by decide +kernel) rfl)⟩, by decide +kernel⟩
theorem sVX8_258 : SitV RX8 258 yX8_decomposableOf cX8_decomposableOf 5 (some .int) 2 := ⟨⟨(wb_5 211 (by decide +kernel) rfl), (wb_5 213 (by decide +kernel) rfl), (wb_p5 (n := 24) 1 (by decide +kernel) rfl), (wb_1 6 (by decide +kernel) rfl), (wb_5 214 (by decide +kernel) rfl)⟩, by decide +kernel⟩
theorem sVX8_261 : SitV RX8 261 yX8_factors cX8_factors 3 (some .int) 1 := ⟨⟨(wb_6 15 (by decide +kernel) rfl), (wb_6 17 (by decide +kernel) rfl), (wb_p5 (n := 24) 11 (by decide +kernel) rfl), (wb_1 6 (by decide +kernel) rfl), (wb_6 18 (by decide +kernel) rfl)⟩, by decide +kernel⟩
theorem sVX8_264 : SitV RX8 264 yX8_factorOf cX8_factorOf 10 (some .int) 3 := ⟨⟨(wb_6 19 (by decide +kernel) rfl), (wb_6 21 (by decide +kernel) rfl), (wb_p5 (n := 24) 12 (by decide +kernel) rfl), (wb_1 6 (by decide +kernel) rfl), (wb_6 22 (by decide +kernel) rfl)⟩, by decide +kernel⟩
theorem sVX8_267 : SitV RX8 267 yX8_basisOf cX8_basisOf 7 (some .int) 2 := ⟨⟨(wb_6 31 (by decide +kernel) rfl), (wb_6 33 (by decide +kernel) rfl), (wb_p5 (n := 24) 13 (by decide +kernel) rfl), (wb_1 6 (by decide +kernel) rfl), (wb_6 34 (by decide +kernel) rfl)⟩, by decide +kernel⟩
theorem sVX8_270 : SitV RX8 270 yX8_refusedOf cX8_refusedOf 4 (some .int) 3 := ⟨⟨(wb_6 50 (by decide +kernel) rfl), (wb_6 52 (by decide +kernel) rfl), (wb_p6 (n := 24) 0 (by decide +kernel) rfl), (wb_1 6 (by decide +kernel) rfl), (wb_6 53 (by decide +kernel) rfl)⟩, by decide +kernel⟩
theorem sVX8_273 : SitV RX8 273 yX8_compareOf cX8_compareOf 7 (some .int) 2 := ⟨⟨(wb_6 58 (by decide +kernel) rfl), (wb_6 60 (by decide +kernel) rfl), (wb_p6 (n := 24) 1 (by decide +kernel) rfl), (wb_1 6 (by decide +kernel) rfl), (wb_6 61 (by decide +kernel) rfl)⟩, by decide +kernel⟩
theorem sVX8_276 : SitV RX8 276 yX8_counted cX8_counted 2 (some .int) 1 := ⟨⟨(wb_6 66 (by decide +kernel) rfl), (wb_6 68 (by decide +kernel) rfl), (wb_p6 (n := 24) 2 (by decide +kernel) rfl), (wb_1 6 (by decide +kernel) rfl), (wb_6 69 (by decide +kernel) rfl)⟩, by decide +kernel⟩
theorem sVX8_279 : SitV RX8 279 yX8_densityOf cX8_densityOf 4 (some .float) 1 := ⟨⟨(wb_6 78 (by decide +kernel) rfl), (wb_6 80 (by decide +kernel) rfl), (wb_p6 (n := 24) 3 (by decide +kernel) rfl), (wb_1 6 (by decide +kernel) rfl), (wb_6 81 (by decide +kernel) rfl)⟩, by decide +kernel⟩
theorem sVX8_283 : SitV RX8 283 yX8_shareOf cX8_shareOf 10 (some .double) 2 := ⟨⟨(wb_6 86 (by decide +kernel) rfl), (wb_6 88 (by decide +kernel) rfl), (wb_p6 (n := 24) 4 (by decide +kernel) rfl), (wb_1 6 (by decide +kernel) rfl), (wb_6 89 (by decide +kernel) rfl)⟩, by decide +kernel⟩
theorem sVX8_292 : SitV RX8 292 yX8_mix cX8_mix 3 none 1 := ⟨⟨(wb_6 95 (by decide +kernel) rfl), (wb_6 97 (by decide +kernel) rfl), (wb_p6 (n := 24) 5 (by decide +kernel) rfl), (wb_1 6 (by decide +kernel) rfl), (wb_6 98 (by decide +kernel) rfl)⟩, by decide +kernel⟩
theorem sSX8_296 : SitS RX8 296 yJxf58ca_floatToIntBits_5c35a cJxf58ca_floatToIntBits_5c35a 1 (some .int) 1 := ⟨⟨(wb_6 104 (by decide +kernel) rfl), (wb_6 105 (by decide +kernel) rfl), (wb_1 19 (by decide +kernel) rfl), (wb_6 106 (by decide +kernel) rfl)⟩, by decide +kernel⟩
theorem sSX8_302 : SitS RX8 302 yJxe99ae_doubleToLongBits_ccdee cJxe99ae_doubleToLongBits_ccdee 2 (some .long) 1 := ⟨⟨(wb_6 114 (by decide +kernel) rfl), (wb_6 115 (by decide +kernel) rfl), (wb_1 20 (by decide +kernel) rfl), (wb_6 116 (by decide +kernel) rfl)⟩, by decide +kernel⟩
theorem sVX8_310 : SitV RX8 310 yX8_mixSlot cX8_mixSlot 5 none 1 := ⟨⟨(wb_6 100 (by decide +kernel) rfl), (wb_6 102 (by decide +kernel) rfl), (wb_p6 (n := 24) 6 (by decide +kernel) rfl), (wb_1 6 (by decide +kernel) rfl), (wb_6 103 (by decide +kernel) rfl)⟩, by decide +kernel⟩
end
section
/-! HEADS: room, contract and walk of each method -/
abbrev rmX0_ofFloat : Room := { frames := 0, cells := 0, slots := 0, locals := 0 }
abbrev KX0_ofFloat (l : Launch) (av : List Value) (I : IM) (L : LM) (r : Option Value) (I2 : IM) (L2 : LM) : Prop := CR l kdC 181 yX0_ofFloat cX0_ofFloat 4 (some .int) rmX0_ofFloat av I L r I2 L2
theorem wX0_ofFloat (l : Launch) {av : List Value} {I : IM} {L : LM} {r : Option Value} {I2 : IM} {L2 : LM} (hlen : Nat.ble (lg_sl av).length 4 = true) (hz : (some .int) = some FieldType.boolean → ∀ x, r = some (.int x) → x = 0 ∨ x = 1) (body : ∀ V : Nat → LV → List Value → IM → LM → Prop, Ru l kdC 181 RX0 cX0_ofFloat rmX0_ofFloat FX0 tX0_ofFloat V (fun st J K => st = r.toList ∧ J = I2 ∧ K = L2) → V 0 (lv_args 0 av) [] I L) : KX0_ofFloat l av I L r I2 L2 := cr_of (y := yX0_ofFloat) (cc := cX0_ofFloat) (nL := 4) (ret := (some .int)) (rm := rmX0_ofFloat) (own := RX0) (F := FX0) (P := tX0_ofFloat) (by decide +kernel) rfl kdC_ok fokX0 okX0_ofFloat (by decide +kernel) (by decide +kernel) hlen hz body
abbrev rmX0_ofDouble : Room := { frames := 0, cells := 0, slots := 0, locals := 0 }
abbrev KX0_ofDouble (l : Launch) (av : List Value) (I : IM) (L : LM) (r : Option Value) (I2 : IM) (L2 : LM) : Prop := CR l kdC 181 yX0_ofDouble cX0_ofDouble 7 (some .long) rmX0_ofDouble av I L r I2 L2
theorem wX0_ofDouble (l : Launch) {av : List Value} {I : IM} {L : LM} {r : Option Value} {I2 : IM} {L2 : LM} (hlen : Nat.ble (lg_sl av).length 7 = true) (hz : (some .long) = some FieldType.boolean → ∀ x, r = some (.int x) → x = 0 ∨ x = 1) (body : ∀ V : Nat → LV → List Value → IM → LM → Prop, Ru l kdC 181 RX0 cX0_ofDouble rmX0_ofDouble FX0 tX0_ofDouble V (fun st J K => st = r.toList ∧ J = I2 ∧ K = L2) → V 0 (lv_args 0 av) [] I L) : KX0_ofDouble l av I L r I2 L2 := cr_of (y := yX0_ofDouble) (cc := cX0_ofDouble) (nL := 7) (ret := (some .long)) (rm := rmX0_ofDouble) (own := RX0) (F := FX0) (P := tX0_ofDouble) (by decide +kernel) rfl kdC_ok fokX0 okX0_ofDouble (by decide +kernel) (by decide +kernel) hlen hz body
abbrev rmX1_startTerm : Room := { frames := 0, cells := 0, slots := 0, locals := 0 }
abbrev KX1_startTerm (l : Launch) (av : List Value) (I : IM) (L : LM) (r : Option Value) (I2 : IM) (L2 : LM) : Prop := CR l kdC 181 yX1_startTerm cX1_startTerm 2 none rmX1_startTerm av I L r I2 L2
theorem wX1_startTerm (l : Launch) {av : List Value} {I : IM} {L : LM} {r : Option Value} {I2 : IM} {L2 : LM} (hlen : Nat.ble (lg_sl av).length 2 = true) (hz : none = some FieldType.boolean → ∀ x, r = some (.int x) → x = 0 ∨ x = 1) (body : ∀ V : Nat → LV → List Value → IM → LM → Prop, Ru l kdC 181 RX1 cX1_startTerm rmX1_startTerm FX1 tX1_startTerm V (fun st J K => st = r.toList ∧ J = I2 ∧ K = L2) → V 0 (lv_args 0 av) [] I L) : KX1_startTerm l av I L r I2 L2 := cr_of (y := yX1_startTerm) (cc := cX1_startTerm) (nL := 2) (ret := none) (rm := rmX1_startTerm) (own := RX1) (F := FX1) (P := tX1_startTerm) (by decide +kernel) rfl kdC_ok fokX1 okX1_startTerm (by decide +kernel) (by decide +kernel) hlen hz body
abbrev rmX1_start : Room := { frames := 1, cells := 0, slots := 0, locals := 21 }
abbrev KX1_start (l : Launch) (av : List Value) (I : IM) (L : LM) (r : Option Value) (I2 : IM) (L2 : LM) : Prop := CR l kdC 181 yX1_start cX1_start 3 none rmX1_start av I L r I2 L2
theorem wX1_start (l : Launch) {av : List Value} {I : IM} {L : LM} {r : Option Value} {I2 : IM} {L2 : LM} (hlen : Nat.ble (lg_sl av).length 3 = true) (hz : none = some FieldType.boolean → ∀ x, r = some (.int x) → x = 0 ∨ x = 1) (body : ∀ V : Nat → LV → List Value → IM → LM → Prop, Ru l kdC 181 RX1 cX1_start rmX1_start FX1 tX1_start V (fun st J K => st = r.toList ∧ J = I2 ∧ K = L2) → V 0 (lv_args 0 av) [] I L) : KX1_start l av I L r I2 L2 := cr_of (y := yX1_start) (cc := cX1_start) (nL := 3) (ret := none) (rm := rmX1_start) (own := RX1) (F := FX1) (P := tX1_start) (by decide +kernel) rfl kdC_ok fokX1 okX1_start (by decide +kernel) (by decide +kernel) hlen hz body
abbrev rmX1_addTerm : Room := { frames := 0, cells := 0, slots := 0, locals := 0 }
abbrev KX1_addTerm (l : Launch) (av : List Value) (I : IM) (L : LM) (r : Option Value) (I2 : IM) (L2 : LM) : Prop := CR l kdC 181 yX1_addTerm cX1_addTerm 1 none rmX1_addTerm av I L r I2 L2
theorem wX1_addTerm (l : Launch) {av : List Value} {I : IM} {L : LM} {r : Option Value} {I2 : IM} {L2 : LM} (hlen : Nat.ble (lg_sl av).length 1 = true) (hz : none = some FieldType.boolean → ∀ x, r = some (.int x) → x = 0 ∨ x = 1) (body : ∀ V : Nat → LV → List Value → IM → LM → Prop, Ru l kdC 181 RX1 cX1_addTerm rmX1_addTerm FX1 tX1_addTerm V (fun st J K => st = r.toList ∧ J = I2 ∧ K = L2) → V 0 (lv_args 0 av) [] I L) : KX1_addTerm l av I L r I2 L2 := cr_of (y := yX1_addTerm) (cc := cX1_addTerm) (nL := 1) (ret := none) (rm := rmX1_addTerm) (own := RX1) (F := FX1) (P := tX1_addTerm) (by decide +kernel) rfl kdC_ok fokX1 okX1_addTerm (by decide +kernel) (by decide +kernel) hlen hz body
abbrev rmX1_acceptsSign : Room := { frames := 1, cells := 0, slots := 0, locals := 21 }
abbrev KX1_acceptsSign (l : Launch) (av : List Value) (I : IM) (L : LM) (r : Option Value) (I2 : IM) (L2 : LM) : Prop := CR l kdC 181 yX1_acceptsSign cX1_acceptsSign 2 (some .boolean) rmX1_acceptsSign av I L r I2 L2
theorem wX1_acceptsSign (l : Launch) {av : List Value} {I : IM} {L : LM} {r : Option Value} {I2 : IM} {L2 : LM} (hlen : Nat.ble (lg_sl av).length 2 = true) (hz : (some .boolean) = some FieldType.boolean → ∀ x, r = some (.int x) → x = 0 ∨ x = 1) (body : ∀ V : Nat → LV → List Value → IM → LM → Prop, Ru l kdC 181 RX1 cX1_acceptsSign rmX1_acceptsSign FX1 tX1_acceptsSign V (fun st J K => st = r.toList ∧ J = I2 ∧ K = L2) → V 0 (lv_args 0 av) [] I L) : KX1_acceptsSign l av I L r I2 L2 := cr_of (y := yX1_acceptsSign) (cc := cX1_acceptsSign) (nL := 2) (ret := (some .boolean)) (rm := rmX1_acceptsSign) (own := RX1) (F := FX1) (P := tX1_acceptsSign) (by decide +kernel) rfl kdC_ok fokX1 okX1_acceptsSign (by decide +kernel) (by decide +kernel) hlen hz body
abbrev rmX1_acceptsLetter : Room := { frames := 0, cells := 0, slots := 0, locals := 0 }
abbrev KX1_acceptsLetter (l : Launch) (av : List Value) (I : IM) (L : LM) (r : Option Value) (I2 : IM) (L2 : LM) : Prop := CR l kdC 181 yX1_acceptsLetter cX1_acceptsLetter 1 (some .boolean) rmX1_acceptsLetter av I L r I2 L2
theorem wX1_acceptsLetter (l : Launch) {av : List Value} {I : IM} {L : LM} {r : Option Value} {I2 : IM} {L2 : LM} (hlen : Nat.ble (lg_sl av).length 1 = true) (hz : (some .boolean) = some FieldType.boolean → ∀ x, r = some (.int x) → x = 0 ∨ x = 1) (body : ∀ V : Nat → LV → List Value → IM → LM → Prop, Ru l kdC 181 RX1 cX1_acceptsLetter rmX1_acceptsLetter FX1 tX1_acceptsLetter V (fun st J K => st = r.toList ∧ J = I2 ∧ K = L2) → V 0 (lv_args 0 av) [] I L) : KX1_acceptsLetter l av I L r I2 L2 := cr_of (y := yX1_acceptsLetter) (cc := cX1_acceptsLetter) (nL := 1) (ret := (some .boolean)) (rm := rmX1_acceptsLetter) (own := RX1) (F := FX1) (P := tX1_acceptsLetter) (by decide +kernel) rfl kdC_ok fokX1 okX1_acceptsLetter (by decide +kernel) (by decide +kernel) hlen hz body
abbrev rmX1_acceptsFirstDigit : Room := { frames := 0, cells := 0, slots := 0, locals := 0 }
abbrev KX1_acceptsFirstDigit (l : Launch) (av : List Value) (I : IM) (L : LM) (r : Option Value) (I2 : IM) (L2 : LM) : Prop := CR l kdC 181 yX1_acceptsFirstDigit cX1_acceptsFirstDigit 2 (some .boolean) rmX1_acceptsFirstDigit av I L r I2 L2
theorem wX1_acceptsFirstDigit (l : Launch) {av : List Value} {I : IM} {L : LM} {r : Option Value} {I2 : IM} {L2 : LM} (hlen : Nat.ble (lg_sl av).length 2 = true) (hz : (some .boolean) = some FieldType.boolean → ∀ x, r = some (.int x) → x = 0 ∨ x = 1) (body : ∀ V : Nat → LV → List Value → IM → LM → Prop, Ru l kdC 181 RX1 cX1_acceptsFirstDigit rmX1_acceptsFirstDigit FX1 tX1_acceptsFirstDigit V (fun st J K => st = r.toList ∧ J = I2 ∧ K = L2) → V 0 (lv_args 0 av) [] I L) : KX1_acceptsFirstDigit l av I L r I2 L2 := cr_of (y := yX1_acceptsFirstDigit) (cc := cX1_acceptsFirstDigit) (nL := 2) (ret := (some .boolean)) (rm := rmX1_acceptsFirstDigit) (own := RX1) (F := FX1) (P := tX1_acceptsFirstDigit) (by decide +kernel) rfl kdC_ok fokX1 okX1_acceptsFirstDigit (by decide +kernel) (by decide +kernel) hlen hz body
abbrev rmX1_acceptsDirection : Room := { frames := 0, cells := 0, slots := 0, locals := 0 }
abbrev KX1_acceptsDirection (l : Launch) (av : List Value) (I : IM) (L : LM) (r : Option Value) (I2 : IM) (L2 : LM) : Prop := CR l kdC 181 yX1_acceptsDirection cX1_acceptsDirection 2 (some .boolean) rmX1_acceptsDirection av I L r I2 L2
theorem wX1_acceptsDirection (l : Launch) {av : List Value} {I : IM} {L : LM} {r : Option Value} {I2 : IM} {L2 : LM} (hlen : Nat.ble (lg_sl av).length 2 = true) (hz : (some .boolean) = some FieldType.boolean → ∀ x, r = some (.int x) → x = 0 ∨ x = 1) (body : ∀ V : Nat → LV → List Value → IM → LM → Prop, Ru l kdC 181 RX1 cX1_acceptsDirection rmX1_acceptsDirection FX1 tX1_acceptsDirection V (fun st J K => st = r.toList ∧ J = I2 ∧ K = L2) → V 0 (lv_args 0 av) [] I L) : KX1_acceptsDirection l av I L r I2 L2 := cr_of (y := yX1_acceptsDirection) (cc := cX1_acceptsDirection) (nL := 2) (ret := (some .boolean)) (rm := rmX1_acceptsDirection) (own := RX1) (F := FX1) (P := tX1_acceptsDirection) (by decide +kernel) rfl kdC_ok fokX1 okX1_acceptsDirection (by decide +kernel) (by decide +kernel) hlen hz body
abbrev rmX1_acceptsDigit : Room := { frames := 1, cells := 0, slots := 0, locals := 21 }
abbrev KX1_acceptsDigit (l : Launch) (av : List Value) (I : IM) (L : LM) (r : Option Value) (I2 : IM) (L2 : LM) : Prop := CR l kdC 181 yX1_acceptsDigit cX1_acceptsDigit 2 (some .boolean) rmX1_acceptsDigit av I L r I2 L2
theorem wX1_acceptsDigit (l : Launch) {av : List Value} {I : IM} {L : LM} {r : Option Value} {I2 : IM} {L2 : LM} (hlen : Nat.ble (lg_sl av).length 2 = true) (hz : (some .boolean) = some FieldType.boolean → ∀ x, r = some (.int x) → x = 0 ∨ x = 1) (body : ∀ V : Nat → LV → List Value → IM → LM → Prop, Ru l kdC 181 RX1 cX1_acceptsDigit rmX1_acceptsDigit FX1 tX1_acceptsDigit V (fun st J K => st = r.toList ∧ J = I2 ∧ K = L2) → V 0 (lv_args 0 av) [] I L) : KX1_acceptsDigit l av I L r I2 L2 := cr_of (y := yX1_acceptsDigit) (cc := cX1_acceptsDigit) (nL := 2) (ret := (some .boolean)) (rm := rmX1_acceptsDigit) (own := RX1) (F := FX1) (P := tX1_acceptsDigit) (by decide +kernel) rfl kdC_ok fokX1 okX1_acceptsDigit (by decide +kernel) (by decide +kernel) hlen hz body
abbrev rmX1_accepts : Room := { frames := 2, cells := 0, slots := 0, locals := 42 }
abbrev KX1_accepts (l : Launch) (av : List Value) (I : IM) (L : LM) (r : Option Value) (I2 : IM) (L2 : LM) : Prop := CR l kdC 181 yX1_accepts cX1_accepts 2 (some .boolean) rmX1_accepts av I L r I2 L2
theorem wX1_accepts (l : Launch) {av : List Value} {I : IM} {L : LM} {r : Option Value} {I2 : IM} {L2 : LM} (hlen : Nat.ble (lg_sl av).length 2 = true) (hz : (some .boolean) = some FieldType.boolean → ∀ x, r = some (.int x) → x = 0 ∨ x = 1) (body : ∀ V : Nat → LV → List Value → IM → LM → Prop, Ru l kdC 181 RX1 cX1_accepts rmX1_accepts FX1 tX1_accepts V (fun st J K => st = r.toList ∧ J = I2 ∧ K = L2) → V 0 (lv_args 0 av) [] I L) : KX1_accepts l av I L r I2 L2 := cr_of (y := yX1_accepts) (cc := cX1_accepts) (nL := 2) (ret := (some .boolean)) (rm := rmX1_accepts) (own := RX1) (F := FX1) (P := tX1_accepts) (by decide +kernel) rfl kdC_ok fokX1 okX1_accepts (by decide +kernel) (by decide +kernel) hlen hz body
abbrev rmX1_read : Room := { frames := 3, cells := 0, slots := 0, locals := 63 }
abbrev KX1_read (l : Launch) (av : List Value) (I : IM) (L : LM) (r : Option Value) (I2 : IM) (L2 : LM) : Prop := CR l kdC 181 yX1_read cX1_read 5 (some .int) rmX1_read av I L r I2 L2
theorem wX1_read (l : Launch) {av : List Value} {I : IM} {L : LM} {r : Option Value} {I2 : IM} {L2 : LM} (hlen : Nat.ble (lg_sl av).length 5 = true) (hz : (some .int) = some FieldType.boolean → ∀ x, r = some (.int x) → x = 0 ∨ x = 1) (body : ∀ V : Nat → LV → List Value → IM → LM → Prop, Ru l kdC 181 RX1 cX1_read rmX1_read FX1 tX1_read V (fun st J K => st = r.toList ∧ J = I2 ∧ K = L2) → V 0 (lv_args 0 av) [] I L) : KX1_read l av I L r I2 L2 := cr_of (y := yX1_read) (cc := cX1_read) (nL := 5) (ret := (some .int)) (rm := rmX1_read) (own := RX1) (F := FX1) (P := tX1_read) (by decide +kernel) rfl kdC_ok fokX1 okX1_read (by decide +kernel) (by decide +kernel) hlen hz body
abbrev rmX1_isComplete : Room := { frames := 0, cells := 0, slots := 0, locals := 0 }
abbrev KX1_isComplete (l : Launch) (av : List Value) (I : IM) (L : LM) (r : Option Value) (I2 : IM) (L2 : LM) : Prop := CR l kdC 181 yX1_isComplete cX1_isComplete 1 (some .boolean) rmX1_isComplete av I L r I2 L2
theorem wX1_isComplete (l : Launch) {av : List Value} {I : IM} {L : LM} {r : Option Value} {I2 : IM} {L2 : LM} (hlen : Nat.ble (lg_sl av).length 1 = true) (hz : (some .boolean) = some FieldType.boolean → ∀ x, r = some (.int x) → x = 0 ∨ x = 1) (body : ∀ V : Nat → LV → List Value → IM → LM → Prop, Ru l kdC 181 RX1 cX1_isComplete rmX1_isComplete FX1 tX1_isComplete V (fun st J K => st = r.toList ∧ J = I2 ∧ K = L2) → V 0 (lv_args 0 av) [] I L) : KX1_isComplete l av I L r I2 L2 := cr_of (y := yX1_isComplete) (cc := cX1_isComplete) (nL := 1) (ret := (some .boolean)) (rm := rmX1_isComplete) (own := RX1) (F := FX1) (P := tX1_isComplete) (by decide +kernel) rfl kdC_ok fokX1 okX1_isComplete (by decide +kernel) (by decide +kernel) hlen hz body
abbrev rmX2_countNonzero : Room := { frames := 0, cells := 0, slots := 0, locals := 0 }
abbrev KX2_countNonzero (l : Launch) (av : List Value) (I : IM) (L : LM) (r : Option Value) (I2 : IM) (L2 : LM) : Prop := CR l kdC 181 yX2_countNonzero cX2_countNonzero 3 (some .int) rmX2_countNonzero av I L r I2 L2
theorem wX2_countNonzero (l : Launch) {av : List Value} {I : IM} {L : LM} {r : Option Value} {I2 : IM} {L2 : LM} (hlen : Nat.ble (lg_sl av).length 3 = true) (hz : (some .int) = some FieldType.boolean → ∀ x, r = some (.int x) → x = 0 ∨ x = 1) (body : ∀ V : Nat → LV → List Value → IM → LM → Prop, Ru l kdC 181 RX2 cX2_countNonzero rmX2_countNonzero FX2 tX2_countNonzero V (fun st J K => st = r.toList ∧ J = I2 ∧ K = L2) → V 0 (lv_args 0 av) [] I L) : KX2_countNonzero l av I L r I2 L2 := cr_of (y := yX2_countNonzero) (cc := cX2_countNonzero) (nL := 3) (ret := (some .int)) (rm := rmX2_countNonzero) (own := RX2) (F := FX2) (P := tX2_countNonzero) (by decide +kernel) rfl kdC_ok fokX2 okX2_countNonzero (by decide +kernel) (by decide +kernel) hlen hz body
abbrev rmJ6_bitCount_0f7a4 : Room := { frames := 0, cells := 0, slots := 0, locals := 0 }
abbrev KJ6_bitCount_0f7a4 (l : Launch) (av : List Value) (I : IM) (L : LM) (r : Option Value) (I2 : IM) (L2 : LM) : Prop := CR l kdC 181 yJ6_bitCount_0f7a4 cJ6_bitCount_0f7a4 1 (some .int) rmJ6_bitCount_0f7a4 av I L r I2 L2
theorem wJ6_bitCount_0f7a4 (l : Launch) {av : List Value} {I : IM} {L : LM} {r : Option Value} {I2 : IM} {L2 : LM} (hlen : Nat.ble (lg_sl av).length 1 = true) (hz : (some .int) = some FieldType.boolean → ∀ x, r = some (.int x) → x = 0 ∨ x = 1) (body : ∀ V : Nat → LV → List Value → IM → LM → Prop, Ru l kdC 181 RJ6 cJ6_bitCount_0f7a4 rmJ6_bitCount_0f7a4 FJ6 tJ6_bitCount_0f7a4 V (fun st J K => st = r.toList ∧ J = I2 ∧ K = L2) → V 0 (lv_args 0 av) [] I L) : KJ6_bitCount_0f7a4 l av I L r I2 L2 := cr_of (y := yJ6_bitCount_0f7a4) (cc := cJ6_bitCount_0f7a4) (nL := 1) (ret := (some .int)) (rm := rmJ6_bitCount_0f7a4) (own := RJ6) (F := FJ6) (P := tJ6_bitCount_0f7a4) (by decide +kernel) rfl kdC_ok fokJ6 okJ6_bitCount_0f7a4 (by decide +kernel) (by decide +kernel) hlen hz body
abbrev KJ6_bitCount_0f7a4r (l : Launch) (av : List Value) (I : IM) (L : LM) (r : Option Value) (I2 : IM) (L2 : LM) : Prop := CR l kdR 12 yJ6_bitCount_0f7a4 cJ6_bitCount_0f7a4 1 (some .int) rmJ6_bitCount_0f7a4 av I L r I2 L2
theorem wJ6_bitCount_0f7a4r (l : Launch) {av : List Value} {I : IM} {L : LM} {r : Option Value} {I2 : IM} {L2 : LM} (hlen : Nat.ble (lg_sl av).length 1 = true) (hz : (some .int) = some FieldType.boolean → ∀ x, r = some (.int x) → x = 0 ∨ x = 1) (body : ∀ V : Nat → LV → List Value → IM → LM → Prop, Ru l kdR 12 RJ6 cJ6_bitCount_0f7a4 rmJ6_bitCount_0f7a4 FJ6 tJ6_bitCount_0f7a4 V (fun st J K => st = r.toList ∧ J = I2 ∧ K = L2) → V 0 (lv_args 0 av) [] I L) : KJ6_bitCount_0f7a4r l av I L r I2 L2 := cr_of (y := yJ6_bitCount_0f7a4) (cc := cJ6_bitCount_0f7a4) (nL := 1) (ret := (some .int)) (rm := rmJ6_bitCount_0f7a4) (own := RJ6) (F := FJ6) (P := tJ6_bitCount_0f7a4) (by decide +kernel) rfl kdR_ok fokJ6 okJ6_bitCount_0f7a4 (by decide +kernel) (by decide +kernel) hlen hz body
abbrev rmX2_lowestGrade : Room := { frames := 1, cells := 0, slots := 0, locals := 20 }
abbrev KX2_lowestGrade (l : Launch) (av : List Value) (I : IM) (L : LM) (r : Option Value) (I2 : IM) (L2 : LM) : Prop := CR l kdC 181 yX2_lowestGrade cX2_lowestGrade 3 (some .int) rmX2_lowestGrade av I L r I2 L2
theorem wX2_lowestGrade (l : Launch) {av : List Value} {I : IM} {L : LM} {r : Option Value} {I2 : IM} {L2 : LM} (hlen : Nat.ble (lg_sl av).length 3 = true) (hz : (some .int) = some FieldType.boolean → ∀ x, r = some (.int x) → x = 0 ∨ x = 1) (body : ∀ V : Nat → LV → List Value → IM → LM → Prop, Ru l kdC 181 RX2 cX2_lowestGrade rmX2_lowestGrade FX2 tX2_lowestGrade V (fun st J K => st = r.toList ∧ J = I2 ∧ K = L2) → V 0 (lv_args 0 av) [] I L) : KX2_lowestGrade l av I L r I2 L2 := cr_of (y := yX2_lowestGrade) (cc := cX2_lowestGrade) (nL := 3) (ret := (some .int)) (rm := rmX2_lowestGrade) (own := RX2) (F := FX2) (P := tX2_lowestGrade) (by decide +kernel) rfl kdC_ok fokX2 okX2_lowestGrade (by decide +kernel) (by decide +kernel) hlen hz body
abbrev rmX2_highestGrade : Room := { frames := 1, cells := 0, slots := 0, locals := 20 }
abbrev KX2_highestGrade (l : Launch) (av : List Value) (I : IM) (L : LM) (r : Option Value) (I2 : IM) (L2 : LM) : Prop := CR l kdC 181 yX2_highestGrade cX2_highestGrade 3 (some .int) rmX2_highestGrade av I L r I2 L2
theorem wX2_highestGrade (l : Launch) {av : List Value} {I : IM} {L : LM} {r : Option Value} {I2 : IM} {L2 : LM} (hlen : Nat.ble (lg_sl av).length 3 = true) (hz : (some .int) = some FieldType.boolean → ∀ x, r = some (.int x) → x = 0 ∨ x = 1) (body : ∀ V : Nat → LV → List Value → IM → LM → Prop, Ru l kdC 181 RX2 cX2_highestGrade rmX2_highestGrade FX2 tX2_highestGrade V (fun st J K => st = r.toList ∧ J = I2 ∧ K = L2) → V 0 (lv_args 0 av) [] I L) : KX2_highestGrade l av I L r I2 L2 := cr_of (y := yX2_highestGrade) (cc := cX2_highestGrade) (nL := 3) (ret := (some .int)) (rm := rmX2_highestGrade) (own := RX2) (F := FX2) (P := tX2_highestGrade) (by decide +kernel) rfl kdC_ok fokX2 okX2_highestGrade (by decide +kernel) (by decide +kernel) hlen hz body
abbrev rmX2_gradeOf : Room := { frames := 2, cells := 0, slots := 0, locals := 42 }
abbrev KX2_gradeOf (l : Launch) (av : List Value) (I : IM) (L : LM) (r : Option Value) (I2 : IM) (L2 : LM) : Prop := CR l kdC 181 yX2_gradeOf cX2_gradeOf 2 (some .int) rmX2_gradeOf av I L r I2 L2
theorem wX2_gradeOf (l : Launch) {av : List Value} {I : IM} {L : LM} {r : Option Value} {I2 : IM} {L2 : LM} (hlen : Nat.ble (lg_sl av).length 2 = true) (hz : (some .int) = some FieldType.boolean → ∀ x, r = some (.int x) → x = 0 ∨ x = 1) (body : ∀ V : Nat → LV → List Value → IM → LM → Prop, Ru l kdC 181 RX2 cX2_gradeOf rmX2_gradeOf FX2 tX2_gradeOf V (fun st J K => st = r.toList ∧ J = I2 ∧ K = L2) → V 0 (lv_args 0 av) [] I L) : KX2_gradeOf l av I L r I2 L2 := cr_of (y := yX2_gradeOf) (cc := cX2_gradeOf) (nL := 2) (ret := (some .int)) (rm := rmX2_gradeOf) (own := RX2) (F := FX2) (P := tX2_gradeOf) (by decide +kernel) rfl kdC_ok fokX2 okX2_gradeOf (by decide +kernel) (by decide +kernel) hlen hz body
abbrev rmX2_greatestSize : Room := { frames := 0, cells := 0, slots := 0, locals := 0 }
abbrev KX2_greatestSize (l : Launch) (av : List Value) (I : IM) (L : LM) (r : Option Value) (I2 : IM) (L2 : LM) : Prop := CR l kdC 181 yX2_greatestSize cX2_greatestSize 3 (some .int) rmX2_greatestSize av I L r I2 L2
theorem wX2_greatestSize (l : Launch) {av : List Value} {I : IM} {L : LM} {r : Option Value} {I2 : IM} {L2 : LM} (hlen : Nat.ble (lg_sl av).length 3 = true) (hz : (some .int) = some FieldType.boolean → ∀ x, r = some (.int x) → x = 0 ∨ x = 1) (body : ∀ V : Nat → LV → List Value → IM → LM → Prop, Ru l kdC 181 RX2 cX2_greatestSize rmX2_greatestSize FX2 tX2_greatestSize V (fun st J K => st = r.toList ∧ J = I2 ∧ K = L2) → V 0 (lv_args 0 av) [] I L) : KX2_greatestSize l av I L r I2 L2 := cr_of (y := yX2_greatestSize) (cc := cX2_greatestSize) (nL := 3) (ret := (some .int)) (rm := rmX2_greatestSize) (own := RX2) (F := FX2) (P := tX2_greatestSize) (by decide +kernel) rfl kdC_ok fokX2 okX2_greatestSize (by decide +kernel) (by decide +kernel) hlen hz body
abbrev rmX2_leadOf : Room := { frames := 0, cells := 0, slots := 0, locals := 0 }
abbrev KX2_leadOf (l : Launch) (av : List Value) (I : IM) (L : LM) (r : Option Value) (I2 : IM) (L2 : LM) : Prop := CR l kdC 181 yX2_leadOf cX2_leadOf 2 (some .int) rmX2_leadOf av I L r I2 L2
theorem wX2_leadOf (l : Launch) {av : List Value} {I : IM} {L : LM} {r : Option Value} {I2 : IM} {L2 : LM} (hlen : Nat.ble (lg_sl av).length 2 = true) (hz : (some .int) = some FieldType.boolean → ∀ x, r = some (.int x) → x = 0 ∨ x = 1) (body : ∀ V : Nat → LV → List Value → IM → LM → Prop, Ru l kdC 181 RX2 cX2_leadOf rmX2_leadOf FX2 tX2_leadOf V (fun st J K => st = r.toList ∧ J = I2 ∧ K = L2) → V 0 (lv_args 0 av) [] I L) : KX2_leadOf l av I L r I2 L2 := cr_of (y := yX2_leadOf) (cc := cX2_leadOf) (nL := 2) (ret := (some .int)) (rm := rmX2_leadOf) (own := RX2) (F := FX2) (P := tX2_leadOf) (by decide +kernel) rfl kdC_ok fokX2 okX2_leadOf (by decide +kernel) (by decide +kernel) hlen hz body
abbrev rmX2_leadCoefficient : Room := { frames := 1, cells := 0, slots := 0, locals := 21 }
abbrev KX2_leadCoefficient (l : Launch) (av : List Value) (I : IM) (L : LM) (r : Option Value) (I2 : IM) (L2 : LM) : Prop := CR l kdC 181 yX2_leadCoefficient cX2_leadCoefficient 2 (some .int) rmX2_leadCoefficient av I L r I2 L2
theorem wX2_leadCoefficient (l : Launch) {av : List Value} {I : IM} {L : LM} {r : Option Value} {I2 : IM} {L2 : LM} (hlen : Nat.ble (lg_sl av).length 2 = true) (hz : (some .int) = some FieldType.boolean → ∀ x, r = some (.int x) → x = 0 ∨ x = 1) (body : ∀ V : Nat → LV → List Value → IM → LM → Prop, Ru l kdC 181 RX2 cX2_leadCoefficient rmX2_leadCoefficient FX2 tX2_leadCoefficient V (fun st J K => st = r.toList ∧ J = I2 ∧ K = L2) → V 0 (lv_args 0 av) [] I L) : KX2_leadCoefficient l av I L r I2 L2 := cr_of (y := yX2_leadCoefficient) (cc := cX2_leadCoefficient) (nL := 2) (ret := (some .int)) (rm := rmX2_leadCoefficient) (own := RX2) (F := FX2) (P := tX2_leadCoefficient) (by decide +kernel) rfl kdC_ok fokX2 okX2_leadCoefficient (by decide +kernel) (by decide +kernel) hlen hz body
abbrev rmX2_directionsOf : Room := { frames := 0, cells := 0, slots := 0, locals := 0 }
abbrev KX2_directionsOf (l : Launch) (av : List Value) (I : IM) (L : LM) (r : Option Value) (I2 : IM) (L2 : LM) : Prop := CR l kdC 181 yX2_directionsOf cX2_directionsOf 3 (some .int) rmX2_directionsOf av I L r I2 L2
theorem wX2_directionsOf (l : Launch) {av : List Value} {I : IM} {L : LM} {r : Option Value} {I2 : IM} {L2 : LM} (hlen : Nat.ble (lg_sl av).length 3 = true) (hz : (some .int) = some FieldType.boolean → ∀ x, r = some (.int x) → x = 0 ∨ x = 1) (body : ∀ V : Nat → LV → List Value → IM → LM → Prop, Ru l kdC 181 RX2 cX2_directionsOf rmX2_directionsOf FX2 tX2_directionsOf V (fun st J K => st = r.toList ∧ J = I2 ∧ K = L2) → V 0 (lv_args 0 av) [] I L) : KX2_directionsOf l av I L r I2 L2 := cr_of (y := yX2_directionsOf) (cc := cX2_directionsOf) (nL := 3) (ret := (some .int)) (rm := rmX2_directionsOf) (own := RX2) (F := FX2) (P := tX2_directionsOf) (by decide +kernel) rfl kdC_ok fokX2 okX2_directionsOf (by decide +kernel) (by decide +kernel) hlen hz body
abbrev rmX2_property : Room := { frames := 3, cells := 0, slots := 0, locals := 63 }
abbrev KX2_property (l : Launch) (av : List Value) (I : IM) (L : LM) (r : Option Value) (I2 : IM) (L2 : LM) : Prop := CR l kdC 181 yX2_property cX2_property 2 (some .int) rmX2_property av I L r I2 L2
theorem wX2_property (l : Launch) {av : List Value} {I : IM} {L : LM} {r : Option Value} {I2 : IM} {L2 : LM} (hlen : Nat.ble (lg_sl av).length 2 = true) (hz : (some .int) = some FieldType.boolean → ∀ x, r = some (.int x) → x = 0 ∨ x = 1) (body : ∀ V : Nat → LV → List Value → IM → LM → Prop, Ru l kdC 181 RX2 cX2_property rmX2_property FX2 tX2_property V (fun st J K => st = r.toList ∧ J = I2 ∧ K = L2) → V 0 (lv_args 0 av) [] I L) : KX2_property l av I L r I2 L2 := cr_of (y := yX2_property) (cc := cX2_property) (nL := 2) (ret := (some .int)) (rm := rmX2_property) (own := RX2) (F := FX2) (P := tX2_property) (by decide +kernel) rfl kdC_ok fokX2 okX2_property (by decide +kernel) (by decide +kernel) hlen hz body
abbrev rmX2_areSame : Room := { frames := 0, cells := 0, slots := 0, locals := 0 }
abbrev KX2_areSame (l : Launch) (av : List Value) (I : IM) (L : LM) (r : Option Value) (I2 : IM) (L2 : LM) : Prop := CR l kdC 181 yX2_areSame cX2_areSame 3 (some .boolean) rmX2_areSame av I L r I2 L2
theorem wX2_areSame (l : Launch) {av : List Value} {I : IM} {L : LM} {r : Option Value} {I2 : IM} {L2 : LM} (hlen : Nat.ble (lg_sl av).length 3 = true) (hz : (some .boolean) = some FieldType.boolean → ∀ x, r = some (.int x) → x = 0 ∨ x = 1) (body : ∀ V : Nat → LV → List Value → IM → LM → Prop, Ru l kdC 181 RX2 cX2_areSame rmX2_areSame FX2 tX2_areSame V (fun st J K => st = r.toList ∧ J = I2 ∧ K = L2) → V 0 (lv_args 0 av) [] I L) : KX2_areSame l av I L r I2 L2 := cr_of (y := yX2_areSame) (cc := cX2_areSame) (nL := 3) (ret := (some .boolean)) (rm := rmX2_areSame) (own := RX2) (F := FX2) (P := tX2_areSame) (by decide +kernel) rfl kdC_ok fokX2 okX2_areSame (by decide +kernel) (by decide +kernel) hlen hz body
abbrev rmX2_areProportional : Room := { frames := 1, cells := 0, slots := 0, locals := 21 }
abbrev KX2_areProportional (l : Launch) (av : List Value) (I : IM) (L : LM) (r : Option Value) (I2 : IM) (L2 : LM) : Prop := CR l kdC 181 yX2_areProportional cX2_areProportional 4 (some .boolean) rmX2_areProportional av I L r I2 L2
theorem wX2_areProportional (l : Launch) {av : List Value} {I : IM} {L : LM} {r : Option Value} {I2 : IM} {L2 : LM} (hlen : Nat.ble (lg_sl av).length 4 = true) (hz : (some .boolean) = some FieldType.boolean → ∀ x, r = some (.int x) → x = 0 ∨ x = 1) (body : ∀ V : Nat → LV → List Value → IM → LM → Prop, Ru l kdC 181 RX2 cX2_areProportional rmX2_areProportional FX2 tX2_areProportional V (fun st J K => st = r.toList ∧ J = I2 ∧ K = L2) → V 0 (lv_args 0 av) [] I L) : KX2_areProportional l av I L r I2 L2 := cr_of (y := yX2_areProportional) (cc := cX2_areProportional) (nL := 4) (ret := (some .boolean)) (rm := rmX2_areProportional) (own := RX2) (F := FX2) (P := tX2_areProportional) (by decide +kernel) rfl kdC_ok fokX2 okX2_areProportional (by decide +kernel) (by decide +kernel) hlen hz body
abbrev rmX5_oddTurns : Room := { frames := 1, cells := 0, slots := 0, locals := 20 }
abbrev KX5_oddTurns (l : Launch) (av : List Value) (I : IM) (L : LM) (r : Option Value) (I2 : IM) (L2 : LM) : Prop := CR l kdC 181 yX5_oddTurns cX5_oddTurns 3 (some .boolean) rmX5_oddTurns av I L r I2 L2
theorem wX5_oddTurns (l : Launch) {av : List Value} {I : IM} {L : LM} {r : Option Value} {I2 : IM} {L2 : LM} (hlen : Nat.ble (lg_sl av).length 3 = true) (hz : (some .boolean) = some FieldType.boolean → ∀ x, r = some (.int x) → x = 0 ∨ x = 1) (body : ∀ V : Nat → LV → List Value → IM → LM → Prop, Ru l kdC 181 RX5 cX5_oddTurns rmX5_oddTurns FX5 tX5_oddTurns V (fun st J K => st = r.toList ∧ J = I2 ∧ K = L2) → V 0 (lv_args 0 av) [] I L) : KX5_oddTurns l av I L r I2 L2 := cr_of (y := yX5_oddTurns) (cc := cX5_oddTurns) (nL := 3) (ret := (some .boolean)) (rm := rmX5_oddTurns) (own := RX5) (F := FX5) (P := tX5_oddTurns) (by decide +kernel) rfl kdC_ok fokX5 okX5_oddTurns (by decide +kernel) (by decide +kernel) hlen hz body
abbrev rmX2_partnerNumber : Room := { frames := 2, cells := 0, slots := 0, locals := 42 }
abbrev KX2_partnerNumber (l : Launch) (av : List Value) (I : IM) (L : LM) (r : Option Value) (I2 : IM) (L2 : LM) : Prop := CR l kdC 181 yX2_partnerNumber cX2_partnerNumber 5 (some .int) rmX2_partnerNumber av I L r I2 L2
theorem wX2_partnerNumber (l : Launch) {av : List Value} {I : IM} {L : LM} {r : Option Value} {I2 : IM} {L2 : LM} (hlen : Nat.ble (lg_sl av).length 5 = true) (hz : (some .int) = some FieldType.boolean → ∀ x, r = some (.int x) → x = 0 ∨ x = 1) (body : ∀ V : Nat → LV → List Value → IM → LM → Prop, Ru l kdC 181 RX2 cX2_partnerNumber rmX2_partnerNumber FX2 tX2_partnerNumber V (fun st J K => st = r.toList ∧ J = I2 ∧ K = L2) → V 0 (lv_args 0 av) [] I L) : KX2_partnerNumber l av I L r I2 L2 := cr_of (y := yX2_partnerNumber) (cc := cX2_partnerNumber) (nL := 5) (ret := (some .int)) (rm := rmX2_partnerNumber) (own := RX2) (F := FX2) (P := tX2_partnerNumber) (by decide +kernel) rfl kdC_ok fokX2 okX2_partnerNumber (by decide +kernel) (by decide +kernel) hlen hz body
abbrev rmX2_factorNumber : Room := { frames := 3, cells := 0, slots := 0, locals := 66 }
abbrev KX2_factorNumber (l : Launch) (av : List Value) (I : IM) (L : LM) (r : Option Value) (I2 : IM) (L2 : LM) : Prop := CR l kdC 181 yX2_factorNumber cX2_factorNumber 8 (some .int) rmX2_factorNumber av I L r I2 L2
theorem wX2_factorNumber (l : Launch) {av : List Value} {I : IM} {L : LM} {r : Option Value} {I2 : IM} {L2 : LM} (hlen : Nat.ble (lg_sl av).length 8 = true) (hz : (some .int) = some FieldType.boolean → ∀ x, r = some (.int x) → x = 0 ∨ x = 1) (body : ∀ V : Nat → LV → List Value → IM → LM → Prop, Ru l kdC 181 RX2 cX2_factorNumber rmX2_factorNumber FX2 tX2_factorNumber V (fun st J K => st = r.toList ∧ J = I2 ∧ K = L2) → V 0 (lv_args 0 av) [] I L) : KX2_factorNumber l av I L r I2 L2 := cr_of (y := yX2_factorNumber) (cc := cX2_factorNumber) (nL := 8) (ret := (some .int)) (rm := rmX2_factorNumber) (own := RX2) (F := FX2) (P := tX2_factorNumber) (by decide +kernel) rfl kdC_ok fokX2 okX2_factorNumber (by decide +kernel) (by decide +kernel) hlen hz body
abbrev rmX2_densityOf : Room := { frames := 2, cells := 0, slots := 0, locals := 42 }
abbrev KX2_densityOf (l : Launch) (av : List Value) (I : IM) (L : LM) (r : Option Value) (I2 : IM) (L2 : LM) : Prop := CR l kdC 181 yX2_densityOf cX2_densityOf 7 (some .float) rmX2_densityOf av I L r I2 L2
theorem wX2_densityOf (l : Launch) {av : List Value} {I : IM} {L : LM} {r : Option Value} {I2 : IM} {L2 : LM} (hlen : Nat.ble (lg_sl av).length 7 = true) (hz : (some .float) = some FieldType.boolean → ∀ x, r = some (.int x) → x = 0 ∨ x = 1) (body : ∀ V : Nat → LV → List Value → IM → LM → Prop, Ru l kdC 181 RX2 cX2_densityOf rmX2_densityOf FX2 tX2_densityOf V (fun st J K => st = r.toList ∧ J = I2 ∧ K = L2) → V 0 (lv_args 0 av) [] I L) : KX2_densityOf l av I L r I2 L2 := cr_of (y := yX2_densityOf) (cc := cX2_densityOf) (nL := 7) (ret := (some .float)) (rm := rmX2_densityOf) (own := RX2) (F := FX2) (P := tX2_densityOf) (by decide +kernel) rfl kdC_ok fokX2 okX2_densityOf (by decide +kernel) (by decide +kernel) hlen hz body
abbrev rmX2_shareOf : Room := { frames := 1, cells := 0, slots := 0, locals := 20 }
abbrev KX2_shareOf (l : Launch) (av : List Value) (I : IM) (L : LM) (r : Option Value) (I2 : IM) (L2 : LM) : Prop := CR l kdC 181 yX2_shareOf cX2_shareOf 9 (some .double) rmX2_shareOf av I L r I2 L2
theorem wX2_shareOf (l : Launch) {av : List Value} {I : IM} {L : LM} {r : Option Value} {I2 : IM} {L2 : LM} (hlen : Nat.ble (lg_sl av).length 9 = true) (hz : (some .double) = some FieldType.boolean → ∀ x, r = some (.int x) → x = 0 ∨ x = 1) (body : ∀ V : Nat → LV → List Value → IM → LM → Prop, Ru l kdC 181 RX2 cX2_shareOf rmX2_shareOf FX2 tX2_shareOf V (fun st J K => st = r.toList ∧ J = I2 ∧ K = L2) → V 0 (lv_args 0 av) [] I L) : KX2_shareOf l av I L r I2 L2 := cr_of (y := yX2_shareOf) (cc := cX2_shareOf) (nL := 9) (ret := (some .double)) (rm := rmX2_shareOf) (own := RX2) (F := FX2) (P := tX2_shareOf) (by decide +kernel) rfl kdC_ok fokX2 okX2_shareOf (by decide +kernel) (by decide +kernel) hlen hz body
abbrev rmX6_startWith : Room := { frames := 0, cells := 0, slots := 0, locals := 0 }
abbrev KX6_startWith (l : Launch) (av : List Value) (I : IM) (L : LM) (r : Option Value) (I2 : IM) (L2 : LM) : Prop := CR l kdC 181 yX6_startWith cX6_startWith 4 none rmX6_startWith av I L r I2 L2
theorem wX6_startWith (l : Launch) {av : List Value} {I : IM} {L : LM} {r : Option Value} {I2 : IM} {L2 : LM} (hlen : Nat.ble (lg_sl av).length 4 = true) (hz : none = some FieldType.boolean → ∀ x, r = some (.int x) → x = 0 ∨ x = 1) (body : ∀ V : Nat → LV → List Value → IM → LM → Prop, Ru l kdC 181 RX6 cX6_startWith rmX6_startWith FX6 tX6_startWith V (fun st J K => st = r.toList ∧ J = I2 ∧ K = L2) → V 0 (lv_args 0 av) [] I L) : KX6_startWith l av I L r I2 L2 := cr_of (y := yX6_startWith) (cc := cX6_startWith) (nL := 4) (ret := none) (rm := rmX6_startWith) (own := RX6) (F := FX6) (P := tX6_startWith) (by decide +kernel) rfl kdC_ok fokX6 okX6_startWith (by decide +kernel) (by decide +kernel) hlen hz body
abbrev rmX6_copyScene : Room := { frames := 0, cells := 0, slots := 0, locals := 0 }
abbrev KX6_copyScene (l : Launch) (av : List Value) (I : IM) (L : LM) (r : Option Value) (I2 : IM) (L2 : LM) : Prop := CR l kdC 181 yX6_copyScene cX6_copyScene 3 none rmX6_copyScene av I L r I2 L2
theorem wX6_copyScene (l : Launch) {av : List Value} {I : IM} {L : LM} {r : Option Value} {I2 : IM} {L2 : LM} (hlen : Nat.ble (lg_sl av).length 3 = true) (hz : none = some FieldType.boolean → ∀ x, r = some (.int x) → x = 0 ∨ x = 1) (body : ∀ V : Nat → LV → List Value → IM → LM → Prop, Ru l kdC 181 RX6 cX6_copyScene rmX6_copyScene FX6 tX6_copyScene V (fun st J K => st = r.toList ∧ J = I2 ∧ K = L2) → V 0 (lv_args 0 av) [] I L) : KX6_copyScene l av I L r I2 L2 := cr_of (y := yX6_copyScene) (cc := cX6_copyScene) (nL := 3) (ret := none) (rm := rmX6_copyScene) (own := RX6) (F := FX6) (P := tX6_copyScene) (by decide +kernel) rfl kdC_ok fokX6 okX6_copyScene (by decide +kernel) (by decide +kernel) hlen hz body
abbrev rmX6_copyAll : Room := { frames := 1, cells := 0, slots := 0, locals := 22 }
abbrev KX6_copyAll (l : Launch) (av : List Value) (I : IM) (L : LM) (r : Option Value) (I2 : IM) (L2 : LM) : Prop := CR l kdC 181 yX6_copyAll cX6_copyAll 2 none rmX6_copyAll av I L r I2 L2
theorem wX6_copyAll (l : Launch) {av : List Value} {I : IM} {L : LM} {r : Option Value} {I2 : IM} {L2 : LM} (hlen : Nat.ble (lg_sl av).length 2 = true) (hz : none = some FieldType.boolean → ∀ x, r = some (.int x) → x = 0 ∨ x = 1) (body : ∀ V : Nat → LV → List Value → IM → LM → Prop, Ru l kdC 181 RX6 cX6_copyAll rmX6_copyAll FX6 tX6_copyAll V (fun st J K => st = r.toList ∧ J = I2 ∧ K = L2) → V 0 (lv_args 0 av) [] I L) : KX6_copyAll l av I L r I2 L2 := cr_of (y := yX6_copyAll) (cc := cX6_copyAll) (nL := 2) (ret := none) (rm := rmX6_copyAll) (own := RX6) (F := FX6) (P := tX6_copyAll) (by decide +kernel) rfl kdC_ok fokX6 okX6_copyAll (by decide +kernel) (by decide +kernel) hlen hz body
abbrev rmX3_save : Room := { frames := 2, cells := 0, slots := 0, locals := 43 }
abbrev KX3_save (l : Launch) (av : List Value) (I : IM) (L : LM) (r : Option Value) (I2 : IM) (L2 : LM) : Prop := CR l kdC 181 yX3_save cX3_save 2 none rmX3_save av I L r I2 L2
theorem wX3_save (l : Launch) {av : List Value} {I : IM} {L : LM} {r : Option Value} {I2 : IM} {L2 : LM} (hlen : Nat.ble (lg_sl av).length 2 = true) (hz : none = some FieldType.boolean → ∀ x, r = some (.int x) → x = 0 ∨ x = 1) (body : ∀ V : Nat → LV → List Value → IM → LM → Prop, Ru l kdC 181 RX3 cX3_save rmX3_save FX3 tX3_save V (fun st J K => st = r.toList ∧ J = I2 ∧ K = L2) → V 0 (lv_args 0 av) [] I L) : KX3_save l av I L r I2 L2 := cr_of (y := yX3_save) (cc := cX3_save) (nL := 2) (ret := none) (rm := rmX3_save) (own := RX3) (F := FX3) (P := tX3_save) (by decide +kernel) rfl kdC_ok fokX3 okX3_save (by decide +kernel) (by decide +kernel) hlen hz body
abbrev rmX3_dropInto : Room := { frames := 2, cells := 0, slots := 0, locals := 43 }
abbrev KX3_dropInto (l : Launch) (av : List Value) (I : IM) (L : LM) (r : Option Value) (I2 : IM) (L2 : LM) : Prop := CR l kdC 181 yX3_dropInto cX3_dropInto 2 none rmX3_dropInto av I L r I2 L2
theorem wX3_dropInto (l : Launch) {av : List Value} {I : IM} {L : LM} {r : Option Value} {I2 : IM} {L2 : LM} (hlen : Nat.ble (lg_sl av).length 2 = true) (hz : none = some FieldType.boolean → ∀ x, r = some (.int x) → x = 0 ∨ x = 1) (body : ∀ V : Nat → LV → List Value → IM → LM → Prop, Ru l kdC 181 RX3 cX3_dropInto rmX3_dropInto FX3 tX3_dropInto V (fun st J K => st = r.toList ∧ J = I2 ∧ K = L2) → V 0 (lv_args 0 av) [] I L) : KX3_dropInto l av I L r I2 L2 := cr_of (y := yX3_dropInto) (cc := cX3_dropInto) (nL := 2) (ret := none) (rm := rmX3_dropInto) (own := RX3) (F := FX3) (P := tX3_dropInto) (by decide +kernel) rfl kdC_ok fokX3 okX3_dropInto (by decide +kernel) (by decide +kernel) hlen hz body
abbrev rmX4_startWithAll : Room := { frames := 0, cells := 0, slots := 0, locals := 0 }
abbrev KX4_startWithAll (l : Launch) (av : List Value) (I : IM) (L : LM) (r : Option Value) (I2 : IM) (L2 : LM) : Prop := CR l kdC 181 yX4_startWithAll cX4_startWithAll 4 none rmX4_startWithAll av I L r I2 L2
theorem wX4_startWithAll (l : Launch) {av : List Value} {I : IM} {L : LM} {r : Option Value} {I2 : IM} {L2 : LM} (hlen : Nat.ble (lg_sl av).length 4 = true) (hz : none = some FieldType.boolean → ∀ x, r = some (.int x) → x = 0 ∨ x = 1) (body : ∀ V : Nat → LV → List Value → IM → LM → Prop, Ru l kdC 181 RX4 cX4_startWithAll rmX4_startWithAll FX4 tX4_startWithAll V (fun st J K => st = r.toList ∧ J = I2 ∧ K = L2) → V 0 (lv_args 0 av) [] I L) : KX4_startWithAll l av I L r I2 L2 := cr_of (y := yX4_startWithAll) (cc := cX4_startWithAll) (nL := 4) (ret := none) (rm := rmX4_startWithAll) (own := RX4) (F := FX4) (P := tX4_startWithAll) (by decide +kernel) rfl kdC_ok fokX4 okX4_startWithAll (by decide +kernel) (by decide +kernel) hlen hz body
abbrev rmX4_valueAt : Room := { frames := 2, cells := 0, slots := 0, locals := 42 }
abbrev KX4_valueAt (l : Launch) (av : List Value) (I : IM) (L : LM) (r : Option Value) (I2 : IM) (L2 : LM) : Prop := CR l kdC 181 yX4_valueAt cX4_valueAt 11 (some .long) rmX4_valueAt av I L r I2 L2
theorem wX4_valueAt (l : Launch) {av : List Value} {I : IM} {L : LM} {r : Option Value} {I2 : IM} {L2 : LM} (hlen : Nat.ble (lg_sl av).length 11 = true) (hz : (some .long) = some FieldType.boolean → ∀ x, r = some (.int x) → x = 0 ∨ x = 1) (body : ∀ V : Nat → LV → List Value → IM → LM → Prop, Ru l kdC 181 RX4 cX4_valueAt rmX4_valueAt FX4 tX4_valueAt V (fun st J K => st = r.toList ∧ J = I2 ∧ K = L2) → V 0 (lv_args 0 av) [] I L) : KX4_valueAt l av I L r I2 L2 := cr_of (y := yX4_valueAt) (cc := cX4_valueAt) (nL := 11) (ret := (some .long)) (rm := rmX4_valueAt) (own := RX4) (F := FX4) (P := tX4_valueAt) (by decide +kernel) rfl kdC_ok fokX4 okX4_valueAt (by decide +kernel) (by decide +kernel) hlen hz body
abbrev rmX4_commonDivisor : Room := { frames := 0, cells := 0, slots := 0, locals := 0 }
abbrev KX4_commonDivisor (l : Launch) (av : List Value) (I : IM) (L : LM) (r : Option Value) (I2 : IM) (L2 : LM) : Prop := CR l kdC 181 yX4_commonDivisor cX4_commonDivisor 11 (some .long) rmX4_commonDivisor av I L r I2 L2
theorem wX4_commonDivisor (l : Launch) {av : List Value} {I : IM} {L : LM} {r : Option Value} {I2 : IM} {L2 : LM} (hlen : Nat.ble (lg_sl av).length 11 = true) (hz : (some .long) = some FieldType.boolean → ∀ x, r = some (.int x) → x = 0 ∨ x = 1) (body : ∀ V : Nat → LV → List Value → IM → LM → Prop, Ru l kdC 181 RX4 cX4_commonDivisor rmX4_commonDivisor FX4 tX4_commonDivisor V (fun st J K => st = r.toList ∧ J = I2 ∧ K = L2) → V 0 (lv_args 0 av) [] I L) : KX4_commonDivisor l av I L r I2 L2 := cr_of (y := yX4_commonDivisor) (cc := cX4_commonDivisor) (nL := 11) (ret := (some .long)) (rm := rmX4_commonDivisor) (own := RX4) (F := FX4) (P := tX4_commonDivisor) (by decide +kernel) rfl kdC_ok fokX4 okX4_commonDivisor (by decide +kernel) (by decide +kernel) hlen hz body
abbrev rmX4_clearWith : Room := { frames := 1, cells := 0, slots := 0, locals := 30 }
abbrev KX4_clearWith (l : Launch) (av : List Value) (I : IM) (L : LM) (r : Option Value) (I2 : IM) (L2 : LM) : Prop := CR l kdC 181 yX4_clearWith cX4_clearWith 11 none rmX4_clearWith av I L r I2 L2
theorem wX4_clearWith (l : Launch) {av : List Value} {I : IM} {L : LM} {r : Option Value} {I2 : IM} {L2 : LM} (hlen : Nat.ble (lg_sl av).length 11 = true) (hz : none = some FieldType.boolean → ∀ x, r = some (.int x) → x = 0 ∨ x = 1) (body : ∀ V : Nat → LV → List Value → IM → LM → Prop, Ru l kdC 181 RX4 cX4_clearWith rmX4_clearWith FX4 tX4_clearWith V (fun st J K => st = r.toList ∧ J = I2 ∧ K = L2) → V 0 (lv_args 0 av) [] I L) : KX4_clearWith l av I L r I2 L2 := cr_of (y := yX4_clearWith) (cc := cX4_clearWith) (nL := 11) (ret := none) (rm := rmX4_clearWith) (own := RX4) (F := FX4) (P := tX4_clearWith) (by decide +kernel) rfl kdC_ok fokX4 okX4_clearWith (by decide +kernel) (by decide +kernel) hlen hz body
abbrev rmX4_removeVector : Room := { frames := 0, cells := 0, slots := 0, locals := 0 }
abbrev KX4_removeVector (l : Launch) (av : List Value) (I : IM) (L : LM) (r : Option Value) (I2 : IM) (L2 : LM) : Prop := CR l kdC 181 yX4_removeVector cX4_removeVector 4 none rmX4_removeVector av I L r I2 L2
theorem wX4_removeVector (l : Launch) {av : List Value} {I : IM} {L : LM} {r : Option Value} {I2 : IM} {L2 : LM} (hlen : Nat.ble (lg_sl av).length 4 = true) (hz : none = some FieldType.boolean → ∀ x, r = some (.int x) → x = 0 ∨ x = 1) (body : ∀ V : Nat → LV → List Value → IM → LM → Prop, Ru l kdC 181 RX4 cX4_removeVector rmX4_removeVector FX4 tX4_removeVector V (fun st J K => st = r.toList ∧ J = I2 ∧ K = L2) → V 0 (lv_args 0 av) [] I L) : KX4_removeVector l av I L r I2 L2 := cr_of (y := yX4_removeVector) (cc := cX4_removeVector) (nL := 4) (ret := none) (rm := rmX4_removeVector) (own := RX4) (F := FX4) (P := tX4_removeVector) (by decide +kernel) rfl kdC_ok fokX4 okX4_removeVector (by decide +kernel) (by decide +kernel) hlen hz body
abbrev rmX4_cut : Room := { frames := 3, cells := 0, slots := 0, locals := 72 }
abbrev KX4_cut (l : Launch) (av : List Value) (I : IM) (L : LM) (r : Option Value) (I2 : IM) (L2 : LM) : Prop := CR l kdC 181 yX4_cut cX4_cut 6 none rmX4_cut av I L r I2 L2
theorem wX4_cut (l : Launch) {av : List Value} {I : IM} {L : LM} {r : Option Value} {I2 : IM} {L2 : LM} (hlen : Nat.ble (lg_sl av).length 6 = true) (hz : none = some FieldType.boolean → ∀ x, r = some (.int x) → x = 0 ∨ x = 1) (body : ∀ V : Nat → LV → List Value → IM → LM → Prop, Ru l kdC 181 RX4 cX4_cut rmX4_cut FX4 tX4_cut V (fun st J K => st = r.toList ∧ J = I2 ∧ K = L2) → V 0 (lv_args 0 av) [] I L) : KX4_cut l av I L r I2 L2 := cr_of (y := yX4_cut) (cc := cX4_cut) (nL := 6) (ret := none) (rm := rmX4_cut) (own := RX4) (F := FX4) (P := tX4_cut) (by decide +kernel) rfl kdC_ok fokX4 okX4_cut (by decide +kernel) (by decide +kernel) hlen hz body
abbrev rmX4_find : Room := { frames := 4, cells := 0, slots := 0, locals := 97 }
abbrev KX4_find (l : Launch) (av : List Value) (I : IM) (L : LM) (r : Option Value) (I2 : IM) (L2 : LM) : Prop := CR l kdC 181 yX4_find cX4_find 4 (some .int) rmX4_find av I L r I2 L2
theorem wX4_find (l : Launch) {av : List Value} {I : IM} {L : LM} {r : Option Value} {I2 : IM} {L2 : LM} (hlen : Nat.ble (lg_sl av).length 4 = true) (hz : (some .int) = some FieldType.boolean → ∀ x, r = some (.int x) → x = 0 ∨ x = 1) (body : ∀ V : Nat → LV → List Value → IM → LM → Prop, Ru l kdC 181 RX4 cX4_find rmX4_find FX4 tX4_find V (fun st J K => st = r.toList ∧ J = I2 ∧ K = L2) → V 0 (lv_args 0 av) [] I L) : KX4_find l av I L r I2 L2 := cr_of (y := yX4_find) (cc := cX4_find) (nL := 4) (ret := (some .int)) (rm := rmX4_find) (own := RX4) (F := FX4) (P := tX4_find) (by decide +kernel) rfl kdC_ok fokX4 okX4_find (by decide +kernel) (by decide +kernel) hlen hz body
abbrev rmX4_number : Room := { frames := 0, cells := 0, slots := 0, locals := 0 }
abbrev KX4_number (l : Launch) (av : List Value) (I : IM) (L : LM) (r : Option Value) (I2 : IM) (L2 : LM) : Prop := CR l kdC 181 yX4_number cX4_number 3 (some .int) rmX4_number av I L r I2 L2
theorem wX4_number (l : Launch) {av : List Value} {I : IM} {L : LM} {r : Option Value} {I2 : IM} {L2 : LM} (hlen : Nat.ble (lg_sl av).length 3 = true) (hz : (some .int) = some FieldType.boolean → ∀ x, r = some (.int x) → x = 0 ∨ x = 1) (body : ∀ V : Nat → LV → List Value → IM → LM → Prop, Ru l kdC 181 RX4 cX4_number rmX4_number FX4 tX4_number V (fun st J K => st = r.toList ∧ J = I2 ∧ K = L2) → V 0 (lv_args 0 av) [] I L) : KX4_number l av I L r I2 L2 := cr_of (y := yX4_number) (cc := cX4_number) (nL := 3) (ret := (some .int)) (rm := rmX4_number) (own := RX4) (F := FX4) (P := tX4_number) (by decide +kernel) rfl kdC_ok fokX4 okX4_number (by decide +kernel) (by decide +kernel) hlen hz body
abbrev rmX5_signOfBlade : Room := { frames := 0, cells := 0, slots := 0, locals := 0 }
abbrev KX5_signOfBlade (l : Launch) (av : List Value) (I : IM) (L : LM) (r : Option Value) (I2 : IM) (L2 : LM) : Prop := CR l kdC 181 yX5_signOfBlade cX5_signOfBlade 4 (some .int) rmX5_signOfBlade av I L r I2 L2
theorem wX5_signOfBlade (l : Launch) {av : List Value} {I : IM} {L : LM} {r : Option Value} {I2 : IM} {L2 : LM} (hlen : Nat.ble (lg_sl av).length 4 = true) (hz : (some .int) = some FieldType.boolean → ∀ x, r = some (.int x) → x = 0 ∨ x = 1) (body : ∀ V : Nat → LV → List Value → IM → LM → Prop, Ru l kdC 181 RX5 cX5_signOfBlade rmX5_signOfBlade FX5 tX5_signOfBlade V (fun st J K => st = r.toList ∧ J = I2 ∧ K = L2) → V 0 (lv_args 0 av) [] I L) : KX5_signOfBlade l av I L r I2 L2 := cr_of (y := yX5_signOfBlade) (cc := cX5_signOfBlade) (nL := 4) (ret := (some .int)) (rm := rmX5_signOfBlade) (own := RX5) (F := FX5) (P := tX5_signOfBlade) (by decide +kernel) rfl kdC_ok fokX5 okX5_signOfBlade (by decide +kernel) (by decide +kernel) hlen hz body
abbrev rmX5_clear : Room := { frames := 0, cells := 0, slots := 0, locals := 0 }
abbrev KX5_clear (l : Launch) (av : List Value) (I : IM) (L : LM) (r : Option Value) (I2 : IM) (L2 : LM) : Prop := CR l kdC 181 yX5_clear cX5_clear 2 none rmX5_clear av I L r I2 L2
theorem wX5_clear (l : Launch) {av : List Value} {I : IM} {L : LM} {r : Option Value} {I2 : IM} {L2 : LM} (hlen : Nat.ble (lg_sl av).length 2 = true) (hz : none = some FieldType.boolean → ∀ x, r = some (.int x) → x = 0 ∨ x = 1) (body : ∀ V : Nat → LV → List Value → IM → LM → Prop, Ru l kdC 181 RX5 cX5_clear rmX5_clear FX5 tX5_clear V (fun st J K => st = r.toList ∧ J = I2 ∧ K = L2) → V 0 (lv_args 0 av) [] I L) : KX5_clear l av I L r I2 L2 := cr_of (y := yX5_clear) (cc := cX5_clear) (nL := 2) (ret := none) (rm := rmX5_clear) (own := RX5) (F := FX5) (P := tX5_clear) (by decide +kernel) rfl kdC_ok fokX5 okX5_clear (by decide +kernel) (by decide +kernel) hlen hz body
abbrev rmX5_addForms : Room := { frames := 0, cells := 0, slots := 0, locals := 0 }
abbrev KX5_addForms (l : Launch) (av : List Value) (I : IM) (L : LM) (r : Option Value) (I2 : IM) (L2 : LM) : Prop := CR l kdC 181 yX5_addForms cX5_addForms 7 none rmX5_addForms av I L r I2 L2
theorem wX5_addForms (l : Launch) {av : List Value} {I : IM} {L : LM} {r : Option Value} {I2 : IM} {L2 : LM} (hlen : Nat.ble (lg_sl av).length 7 = true) (hz : none = some FieldType.boolean → ∀ x, r = some (.int x) → x = 0 ∨ x = 1) (body : ∀ V : Nat → LV → List Value → IM → LM → Prop, Ru l kdC 181 RX5 cX5_addForms rmX5_addForms FX5 tX5_addForms V (fun st J K => st = r.toList ∧ J = I2 ∧ K = L2) → V 0 (lv_args 0 av) [] I L) : KX5_addForms l av I L r I2 L2 := cr_of (y := yX5_addForms) (cc := cX5_addForms) (nL := 7) (ret := none) (rm := rmX5_addForms) (own := RX5) (F := FX5) (P := tX5_addForms) (by decide +kernel) rfl kdC_ok fokX5 okX5_addForms (by decide +kernel) (by decide +kernel) hlen hz body
abbrev rmX5_multiplyForm : Room := { frames := 0, cells := 0, slots := 0, locals := 0 }
abbrev KX5_multiplyForm (l : Launch) (av : List Value) (I : IM) (L : LM) (r : Option Value) (I2 : IM) (L2 : LM) : Prop := CR l kdC 181 yX5_multiplyForm cX5_multiplyForm 6 none rmX5_multiplyForm av I L r I2 L2
theorem wX5_multiplyForm (l : Launch) {av : List Value} {I : IM} {L : LM} {r : Option Value} {I2 : IM} {L2 : LM} (hlen : Nat.ble (lg_sl av).length 6 = true) (hz : none = some FieldType.boolean → ∀ x, r = some (.int x) → x = 0 ∨ x = 1) (body : ∀ V : Nat → LV → List Value → IM → LM → Prop, Ru l kdC 181 RX5 cX5_multiplyForm rmX5_multiplyForm FX5 tX5_multiplyForm V (fun st J K => st = r.toList ∧ J = I2 ∧ K = L2) → V 0 (lv_args 0 av) [] I L) : KX5_multiplyForm l av I L r I2 L2 := cr_of (y := yX5_multiplyForm) (cc := cX5_multiplyForm) (nL := 6) (ret := none) (rm := rmX5_multiplyForm) (own := RX5) (F := FX5) (P := tX5_multiplyForm) (by decide +kernel) rfl kdC_ok fokX5 okX5_multiplyForm (by decide +kernel) (by decide +kernel) hlen hz body
abbrev rmX5_wedgeForms : Room := { frames := 2, cells := 0, slots := 0, locals := 42 }
abbrev KX5_wedgeForms (l : Launch) (av : List Value) (I : IM) (L : LM) (r : Option Value) (I2 : IM) (L2 : LM) : Prop := CR l kdC 181 yX5_wedgeForms cX5_wedgeForms 8 none rmX5_wedgeForms av I L r I2 L2
theorem wX5_wedgeForms (l : Launch) {av : List Value} {I : IM} {L : LM} {r : Option Value} {I2 : IM} {L2 : LM} (hlen : Nat.ble (lg_sl av).length 8 = true) (hz : none = some FieldType.boolean → ∀ x, r = some (.int x) → x = 0 ∨ x = 1) (body : ∀ V : Nat → LV → List Value → IM → LM → Prop, Ru l kdC 181 RX5 cX5_wedgeForms rmX5_wedgeForms FX5 tX5_wedgeForms V (fun st J K => st = r.toList ∧ J = I2 ∧ K = L2) → V 0 (lv_args 0 av) [] I L) : KX5_wedgeForms l av I L r I2 L2 := cr_of (y := yX5_wedgeForms) (cc := cX5_wedgeForms) (nL := 8) (ret := none) (rm := rmX5_wedgeForms) (own := RX5) (F := FX5) (P := tX5_wedgeForms) (by decide +kernel) rfl kdC_ok fokX5 okX5_wedgeForms (by decide +kernel) (by decide +kernel) hlen hz body
abbrev rmX6_blades : Room := { frames := 0, cells := 0, slots := 0, locals := 0 }
abbrev KX6_blades (l : Launch) (av : List Value) (I : IM) (L : LM) (r : Option Value) (I2 : IM) (L2 : LM) : Prop := CR l kdC 181 yX6_blades cX6_blades 1 (some .int) rmX6_blades av I L r I2 L2
theorem wX6_blades (l : Launch) {av : List Value} {I : IM} {L : LM} {r : Option Value} {I2 : IM} {L2 : LM} (hlen : Nat.ble (lg_sl av).length 1 = true) (hz : (some .int) = some FieldType.boolean → ∀ x, r = some (.int x) → x = 0 ∨ x = 1) (body : ∀ V : Nat → LV → List Value → IM → LM → Prop, Ru l kdC 181 RX6 cX6_blades rmX6_blades FX6 tX6_blades V (fun st J K => st = r.toList ∧ J = I2 ∧ K = L2) → V 0 (lv_args 0 av) [] I L) : KX6_blades l av I L r I2 L2 := cr_of (y := yX6_blades) (cc := cX6_blades) (nL := 1) (ret := (some .int)) (rm := rmX6_blades) (own := RX6) (F := FX6) (P := tX6_blades) (by decide +kernel) rfl kdC_ok fokX6 okX6_blades (by decide +kernel) (by decide +kernel) hlen hz body
abbrev rmX5_contractForms : Room := { frames := 2, cells := 0, slots := 0, locals := 42 }
abbrev KX5_contractForms (l : Launch) (av : List Value) (I : IM) (L : LM) (r : Option Value) (I2 : IM) (L2 : LM) : Prop := CR l kdC 181 yX5_contractForms cX5_contractForms 11 none rmX5_contractForms av I L r I2 L2
theorem wX5_contractForms (l : Launch) {av : List Value} {I : IM} {L : LM} {r : Option Value} {I2 : IM} {L2 : LM} (hlen : Nat.ble (lg_sl av).length 11 = true) (hz : none = some FieldType.boolean → ∀ x, r = some (.int x) → x = 0 ∨ x = 1) (body : ∀ V : Nat → LV → List Value → IM → LM → Prop, Ru l kdC 181 RX5 cX5_contractForms rmX5_contractForms FX5 tX5_contractForms V (fun st J K => st = r.toList ∧ J = I2 ∧ K = L2) → V 0 (lv_args 0 av) [] I L) : KX5_contractForms l av I L r I2 L2 := cr_of (y := yX5_contractForms) (cc := cX5_contractForms) (nL := 11) (ret := none) (rm := rmX5_contractForms) (own := RX5) (F := FX5) (P := tX5_contractForms) (by decide +kernel) rfl kdC_ok fokX5 okX5_contractForms (by decide +kernel) (by decide +kernel) hlen hz body
abbrev rmX5_starForm : Room := { frames := 2, cells := 0, slots := 0, locals := 42 }
abbrev KX5_starForm (l : Launch) (av : List Value) (I : IM) (L : LM) (r : Option Value) (I2 : IM) (L2 : LM) : Prop := CR l kdC 181 yX5_starForm cX5_starForm 9 none rmX5_starForm av I L r I2 L2
theorem wX5_starForm (l : Launch) {av : List Value} {I : IM} {L : LM} {r : Option Value} {I2 : IM} {L2 : LM} (hlen : Nat.ble (lg_sl av).length 9 = true) (hz : none = some FieldType.boolean → ∀ x, r = some (.int x) → x = 0 ∨ x = 1) (body : ∀ V : Nat → LV → List Value → IM → LM → Prop, Ru l kdC 181 RX5 cX5_starForm rmX5_starForm FX5 tX5_starForm V (fun st J K => st = r.toList ∧ J = I2 ∧ K = L2) → V 0 (lv_args 0 av) [] I L) : KX5_starForm l av I L r I2 L2 := cr_of (y := yX5_starForm) (cc := cX5_starForm) (nL := 9) (ret := none) (rm := rmX5_starForm) (own := RX5) (F := FX5) (P := tX5_starForm) (by decide +kernel) rfl kdC_ok fokX5 okX5_starForm (by decide +kernel) (by decide +kernel) hlen hz body
abbrev rmX5_partOfForm : Room := { frames := 1, cells := 0, slots := 0, locals := 20 }
abbrev KX5_partOfForm (l : Launch) (av : List Value) (I : IM) (L : LM) (r : Option Value) (I2 : IM) (L2 : LM) : Prop := CR l kdC 181 yX5_partOfForm cX5_partOfForm 6 none rmX5_partOfForm av I L r I2 L2
theorem wX5_partOfForm (l : Launch) {av : List Value} {I : IM} {L : LM} {r : Option Value} {I2 : IM} {L2 : LM} (hlen : Nat.ble (lg_sl av).length 6 = true) (hz : none = some FieldType.boolean → ∀ x, r = some (.int x) → x = 0 ∨ x = 1) (body : ∀ V : Nat → LV → List Value → IM → LM → Prop, Ru l kdC 181 RX5 cX5_partOfForm rmX5_partOfForm FX5 tX5_partOfForm V (fun st J K => st = r.toList ∧ J = I2 ∧ K = L2) → V 0 (lv_args 0 av) [] I L) : KX5_partOfForm l av I L r I2 L2 := cr_of (y := yX5_partOfForm) (cc := cX5_partOfForm) (nL := 6) (ret := none) (rm := rmX5_partOfForm) (own := RX5) (F := FX5) (P := tX5_partOfForm) (by decide +kernel) rfl kdC_ok fokX5 okX5_partOfForm (by decide +kernel) (by decide +kernel) hlen hz body
abbrev rmX5_reverseForm : Room := { frames := 1, cells := 0, slots := 0, locals := 20 }
abbrev KX5_reverseForm (l : Launch) (av : List Value) (I : IM) (L : LM) (r : Option Value) (I2 : IM) (L2 : LM) : Prop := CR l kdC 181 yX5_reverseForm cX5_reverseForm 6 none rmX5_reverseForm av I L r I2 L2
theorem wX5_reverseForm (l : Launch) {av : List Value} {I : IM} {L : LM} {r : Option Value} {I2 : IM} {L2 : LM} (hlen : Nat.ble (lg_sl av).length 6 = true) (hz : none = some FieldType.boolean → ∀ x, r = some (.int x) → x = 0 ∨ x = 1) (body : ∀ V : Nat → LV → List Value → IM → LM → Prop, Ru l kdC 181 RX5 cX5_reverseForm rmX5_reverseForm FX5 tX5_reverseForm V (fun st J K => st = r.toList ∧ J = I2 ∧ K = L2) → V 0 (lv_args 0 av) [] I L) : KX5_reverseForm l av I L r I2 L2 := cr_of (y := yX5_reverseForm) (cc := cX5_reverseForm) (nL := 6) (ret := none) (rm := rmX5_reverseForm) (own := RX5) (F := FX5) (P := tX5_reverseForm) (by decide +kernel) rfl kdC_ok fokX5 okX5_reverseForm (by decide +kernel) (by decide +kernel) hlen hz body
abbrev rmX5_wedgeWithColumn : Room := { frames := 2, cells := 0, slots := 0, locals := 42 }
abbrev KX5_wedgeWithColumn (l : Launch) (av : List Value) (I : IM) (L : LM) (r : Option Value) (I2 : IM) (L2 : LM) : Prop := CR l kdC 181 yX5_wedgeWithColumn cX5_wedgeWithColumn 11 (some .long) rmX5_wedgeWithColumn av I L r I2 L2
theorem wX5_wedgeWithColumn (l : Launch) {av : List Value} {I : IM} {L : LM} {r : Option Value} {I2 : IM} {L2 : LM} (hlen : Nat.ble (lg_sl av).length 11 = true) (hz : (some .long) = some FieldType.boolean → ∀ x, r = some (.int x) → x = 0 ∨ x = 1) (body : ∀ V : Nat → LV → List Value → IM → LM → Prop, Ru l kdC 181 RX5 cX5_wedgeWithColumn rmX5_wedgeWithColumn FX5 tX5_wedgeWithColumn V (fun st J K => st = r.toList ∧ J = I2 ∧ K = L2) → V 0 (lv_args 0 av) [] I L) : KX5_wedgeWithColumn l av I L r I2 L2 := cr_of (y := yX5_wedgeWithColumn) (cc := cX5_wedgeWithColumn) (nL := 11) (ret := (some .long)) (rm := rmX5_wedgeWithColumn) (own := RX5) (F := FX5) (P := tX5_wedgeWithColumn) (by decide +kernel) rfl kdC_ok fokX5 okX5_wedgeWithColumn (by decide +kernel) (by decide +kernel) hlen hz body
abbrev rmX5_pushBlade : Room := { frames := 3, cells := 0, slots := 0, locals := 72 }
abbrev KX5_pushBlade (l : Launch) (av : List Value) (I : IM) (L : LM) (r : Option Value) (I2 : IM) (L2 : LM) : Prop := CR l kdC 181 yX5_pushBlade cX5_pushBlade 6 none rmX5_pushBlade av I L r I2 L2
theorem wX5_pushBlade (l : Launch) {av : List Value} {I : IM} {L : LM} {r : Option Value} {I2 : IM} {L2 : LM} (hlen : Nat.ble (lg_sl av).length 6 = true) (hz : none = some FieldType.boolean → ∀ x, r = some (.int x) → x = 0 ∨ x = 1) (body : ∀ V : Nat → LV → List Value → IM → LM → Prop, Ru l kdC 181 RX5 cX5_pushBlade rmX5_pushBlade FX5 tX5_pushBlade V (fun st J K => st = r.toList ∧ J = I2 ∧ K = L2) → V 0 (lv_args 0 av) [] I L) : KX5_pushBlade l av I L r I2 L2 := cr_of (y := yX5_pushBlade) (cc := cX5_pushBlade) (nL := 6) (ret := none) (rm := rmX5_pushBlade) (own := RX5) (F := FX5) (P := tX5_pushBlade) (by decide +kernel) rfl kdC_ok fokX5 okX5_pushBlade (by decide +kernel) (by decide +kernel) hlen hz body
abbrev rmX5_pushForm : Room := { frames := 4, cells := 0, slots := 0, locals := 97 }
abbrev KX5_pushForm (l : Launch) (av : List Value) (I : IM) (L : LM) (r : Option Value) (I2 : IM) (L2 : LM) : Prop := CR l kdC 181 yX5_pushForm cX5_pushForm 7 none rmX5_pushForm av I L r I2 L2
theorem wX5_pushForm (l : Launch) {av : List Value} {I : IM} {L : LM} {r : Option Value} {I2 : IM} {L2 : LM} (hlen : Nat.ble (lg_sl av).length 7 = true) (hz : none = some FieldType.boolean → ∀ x, r = some (.int x) → x = 0 ∨ x = 1) (body : ∀ V : Nat → LV → List Value → IM → LM → Prop, Ru l kdC 181 RX5 cX5_pushForm rmX5_pushForm FX5 tX5_pushForm V (fun st J K => st = r.toList ∧ J = I2 ∧ K = L2) → V 0 (lv_args 0 av) [] I L) : KX5_pushForm l av I L r I2 L2 := cr_of (y := yX5_pushForm) (cc := cX5_pushForm) (nL := 7) (ret := none) (rm := rmX5_pushForm) (own := RX5) (F := FX5) (P := tX5_pushForm) (by decide +kernel) rfl kdC_ok fokX5 okX5_pushForm (by decide +kernel) (by decide +kernel) hlen hz body
abbrev rmX5_determinant : Room := { frames := 4, cells := 0, slots := 0, locals := 97 }
abbrev KX5_determinant (l : Launch) (av : List Value) (I : IM) (L : LM) (r : Option Value) (I2 : IM) (L2 : LM) : Prop := CR l kdC 181 yX5_determinant cX5_determinant 3 (some .int) rmX5_determinant av I L r I2 L2
theorem wX5_determinant (l : Launch) {av : List Value} {I : IM} {L : LM} {r : Option Value} {I2 : IM} {L2 : LM} (hlen : Nat.ble (lg_sl av).length 3 = true) (hz : (some .int) = some FieldType.boolean → ∀ x, r = some (.int x) → x = 0 ∨ x = 1) (body : ∀ V : Nat → LV → List Value → IM → LM → Prop, Ru l kdC 181 RX5 cX5_determinant rmX5_determinant FX5 tX5_determinant V (fun st J K => st = r.toList ∧ J = I2 ∧ K = L2) → V 0 (lv_args 0 av) [] I L) : KX5_determinant l av I L r I2 L2 := cr_of (y := yX5_determinant) (cc := cX5_determinant) (nL := 3) (ret := (some .int)) (rm := rmX5_determinant) (own := RX5) (F := FX5) (P := tX5_determinant) (by decide +kernel) rfl kdC_ok fokX5 okX5_determinant (by decide +kernel) (by decide +kernel) hlen hz body
abbrev rmX5_innerOfForms : Room := { frames := 1, cells := 0, slots := 0, locals := 23 }
abbrev KX5_innerOfForms (l : Launch) (av : List Value) (I : IM) (L : LM) (r : Option Value) (I2 : IM) (L2 : LM) : Prop := CR l kdC 181 yX5_innerOfForms cX5_innerOfForms 8 (some .long) rmX5_innerOfForms av I L r I2 L2
theorem wX5_innerOfForms (l : Launch) {av : List Value} {I : IM} {L : LM} {r : Option Value} {I2 : IM} {L2 : LM} (hlen : Nat.ble (lg_sl av).length 8 = true) (hz : (some .long) = some FieldType.boolean → ∀ x, r = some (.int x) → x = 0 ∨ x = 1) (body : ∀ V : Nat → LV → List Value → IM → LM → Prop, Ru l kdC 181 RX5 cX5_innerOfForms rmX5_innerOfForms FX5 tX5_innerOfForms V (fun st J K => st = r.toList ∧ J = I2 ∧ K = L2) → V 0 (lv_args 0 av) [] I L) : KX5_innerOfForms l av I L r I2 L2 := cr_of (y := yX5_innerOfForms) (cc := cX5_innerOfForms) (nL := 8) (ret := (some .long)) (rm := rmX5_innerOfForms) (own := RX5) (F := FX5) (P := tX5_innerOfForms) (by decide +kernel) rfl kdC_ok fokX5 okX5_innerOfForms (by decide +kernel) (by decide +kernel) hlen hz body
abbrev rmX6_countForms : Room := { frames := 1, cells := 0, slots := 0, locals := 21 }
abbrev KX6_countForms (l : Launch) (av : List Value) (I : IM) (L : LM) (r : Option Value) (I2 : IM) (L2 : LM) : Prop := CR l kdC 181 yX6_countForms cX6_countForms 3 (some .int) rmX6_countForms av I L r I2 L2
theorem wX6_countForms (l : Launch) {av : List Value} {I : IM} {L : LM} {r : Option Value} {I2 : IM} {L2 : LM} (hlen : Nat.ble (lg_sl av).length 3 = true) (hz : (some .int) = some FieldType.boolean → ∀ x, r = some (.int x) → x = 0 ∨ x = 1) (body : ∀ V : Nat → LV → List Value → IM → LM → Prop, Ru l kdC 181 RX6 cX6_countForms rmX6_countForms FX6 tX6_countForms V (fun st J K => st = r.toList ∧ J = I2 ∧ K = L2) → V 0 (lv_args 0 av) [] I L) : KX6_countForms l av I L r I2 L2 := cr_of (y := yX6_countForms) (cc := cX6_countForms) (nL := 3) (ret := (some .int)) (rm := rmX6_countForms) (own := RX6) (F := FX6) (P := tX6_countForms) (by decide +kernel) rfl kdC_ok fokX6 okX6_countForms (by decide +kernel) (by decide +kernel) hlen hz body
abbrev rmX7_begin : Room := { frames := 3, cells := 0, slots := 0, locals := 64 }
abbrev KX7_begin (l : Launch) (av : List Value) (I : IM) (L : LM) (r : Option Value) (I2 : IM) (L2 : LM) : Prop := CR l kdC 181 yX7_begin cX7_begin 3 (some .int) rmX7_begin av I L r I2 L2
theorem wX7_begin (l : Launch) {av : List Value} {I : IM} {L : LM} {r : Option Value} {I2 : IM} {L2 : LM} (hlen : Nat.ble (lg_sl av).length 3 = true) (hz : (some .int) = some FieldType.boolean → ∀ x, r = some (.int x) → x = 0 ∨ x = 1) (body : ∀ V : Nat → LV → List Value → IM → LM → Prop, Ru l kdC 181 RX7 cX7_begin rmX7_begin FX7 tX7_begin V (fun st J K => st = r.toList ∧ J = I2 ∧ K = L2) → V 0 (lv_args 0 av) [] I L) : KX7_begin l av I L r I2 L2 := cr_of (y := yX7_begin) (cc := cX7_begin) (nL := 3) (ret := (some .int)) (rm := rmX7_begin) (own := RX7) (F := FX7) (P := tX7_begin) (by decide +kernel) rfl kdC_ok fokX7 okX7_begin (by decide +kernel) (by decide +kernel) hlen hz body
abbrev rmX7_requireDirection : Room := { frames := 0, cells := 0, slots := 0, locals := 0 }
abbrev KX7_requireDirection (l : Launch) (av : List Value) (I : IM) (L : LM) (r : Option Value) (I2 : IM) (L2 : LM) : Prop := CR l kdC 181 yX7_requireDirection cX7_requireDirection 2 none rmX7_requireDirection av I L r I2 L2
theorem wX7_requireDirection (l : Launch) {av : List Value} {I : IM} {L : LM} {r : Option Value} {I2 : IM} {L2 : LM} (hlen : Nat.ble (lg_sl av).length 2 = true) (hz : none = some FieldType.boolean → ∀ x, r = some (.int x) → x = 0 ∨ x = 1) (body : ∀ V : Nat → LV → List Value → IM → LM → Prop, Ru l kdC 181 RX7 cX7_requireDirection rmX7_requireDirection FX7 tX7_requireDirection V (fun st J K => st = r.toList ∧ J = I2 ∧ K = L2) → V 0 (lv_args 0 av) [] I L) : KX7_requireDirection l av I L r I2 L2 := cr_of (y := yX7_requireDirection) (cc := cX7_requireDirection) (nL := 2) (ret := none) (rm := rmX7_requireDirection) (own := RX7) (F := FX7) (P := tX7_requireDirection) (by decide +kernel) rfl kdC_ok fokX7 okX7_requireDirection (by decide +kernel) (by decide +kernel) hlen hz body
abbrev rmX7_sign : Room := { frames := 3, cells := 0, slots := 0, locals := 64 }
abbrev KX7_sign (l : Launch) (av : List Value) (I : IM) (L : LM) (r : Option Value) (I2 : IM) (L2 : LM) : Prop := CR l kdC 181 yX7_sign cX7_sign 4 (some .int) rmX7_sign av I L r I2 L2
theorem wX7_sign (l : Launch) {av : List Value} {I : IM} {L : LM} {r : Option Value} {I2 : IM} {L2 : LM} (hlen : Nat.ble (lg_sl av).length 4 = true) (hz : (some .int) = some FieldType.boolean → ∀ x, r = some (.int x) → x = 0 ∨ x = 1) (body : ∀ V : Nat → LV → List Value → IM → LM → Prop, Ru l kdC 181 RX7 cX7_sign rmX7_sign FX7 tX7_sign V (fun st J K => st = r.toList ∧ J = I2 ∧ K = L2) → V 0 (lv_args 0 av) [] I L) : KX7_sign l av I L r I2 L2 := cr_of (y := yX7_sign) (cc := cX7_sign) (nL := 4) (ret := (some .int)) (rm := rmX7_sign) (own := RX7) (F := FX7) (P := tX7_sign) (by decide +kernel) rfl kdC_ok fokX7 okX7_sign (by decide +kernel) (by decide +kernel) hlen hz body
abbrev rmX7_requireSize : Room := { frames := 0, cells := 0, slots := 0, locals := 0 }
abbrev KX7_requireSize (l : Launch) (av : List Value) (I : IM) (L : LM) (r : Option Value) (I2 : IM) (L2 : LM) : Prop := CR l kdC 181 yX7_requireSize cX7_requireSize 2 none rmX7_requireSize av I L r I2 L2
theorem wX7_requireSize (l : Launch) {av : List Value} {I : IM} {L : LM} {r : Option Value} {I2 : IM} {L2 : LM} (hlen : Nat.ble (lg_sl av).length 2 = true) (hz : none = some FieldType.boolean → ∀ x, r = some (.int x) → x = 0 ∨ x = 1) (body : ∀ V : Nat → LV → List Value → IM → LM → Prop, Ru l kdC 181 RX7 cX7_requireSize rmX7_requireSize FX7 tX7_requireSize V (fun st J K => st = r.toList ∧ J = I2 ∧ K = L2) → V 0 (lv_args 0 av) [] I L) : KX7_requireSize l av I L r I2 L2 := cr_of (y := yX7_requireSize) (cc := cX7_requireSize) (nL := 2) (ret := none) (rm := rmX7_requireSize) (own := RX7) (F := FX7) (P := tX7_requireSize) (by decide +kernel) rfl kdC_ok fokX7 okX7_requireSize (by decide +kernel) (by decide +kernel) hlen hz body
abbrev rmX7_matrix : Room := { frames := 3, cells := 0, slots := 0, locals := 64 }
abbrev KX7_matrix (l : Launch) (av : List Value) (I : IM) (L : LM) (r : Option Value) (I2 : IM) (L2 : LM) : Prop := CR l kdC 181 yX7_matrix cX7_matrix 5 (some .int) rmX7_matrix av I L r I2 L2
theorem wX7_matrix (l : Launch) {av : List Value} {I : IM} {L : LM} {r : Option Value} {I2 : IM} {L2 : LM} (hlen : Nat.ble (lg_sl av).length 5 = true) (hz : (some .int) = some FieldType.boolean → ∀ x, r = some (.int x) → x = 0 ∨ x = 1) (body : ∀ V : Nat → LV → List Value → IM → LM → Prop, Ru l kdC 181 RX7 cX7_matrix rmX7_matrix FX7 tX7_matrix V (fun st J K => st = r.toList ∧ J = I2 ∧ K = L2) → V 0 (lv_args 0 av) [] I L) : KX7_matrix l av I L r I2 L2 := cr_of (y := yX7_matrix) (cc := cX7_matrix) (nL := 5) (ret := (some .int)) (rm := rmX7_matrix) (own := RX7) (F := FX7) (P := tX7_matrix) (by decide +kernel) rfl kdC_ok fokX7 okX7_matrix (by decide +kernel) (by decide +kernel) hlen hz body
abbrev rmX7_requireSlot : Room := { frames := 0, cells := 0, slots := 0, locals := 0 }
abbrev KX7_requireSlot (l : Launch) (av : List Value) (I : IM) (L : LM) (r : Option Value) (I2 : IM) (L2 : LM) : Prop := CR l kdC 181 yX7_requireSlot cX7_requireSlot 1 none rmX7_requireSlot av I L r I2 L2
theorem wX7_requireSlot (l : Launch) {av : List Value} {I : IM} {L : LM} {r : Option Value} {I2 : IM} {L2 : LM} (hlen : Nat.ble (lg_sl av).length 1 = true) (hz : none = some FieldType.boolean → ∀ x, r = some (.int x) → x = 0 ∨ x = 1) (body : ∀ V : Nat → LV → List Value → IM → LM → Prop, Ru l kdC 181 RX7 cX7_requireSlot rmX7_requireSlot FX7 tX7_requireSlot V (fun st J K => st = r.toList ∧ J = I2 ∧ K = L2) → V 0 (lv_args 0 av) [] I L) : KX7_requireSlot l av I L r I2 L2 := cr_of (y := yX7_requireSlot) (cc := cX7_requireSlot) (nL := 1) (ret := none) (rm := rmX7_requireSlot) (own := RX7) (F := FX7) (P := tX7_requireSlot) (by decide +kernel) rfl kdC_ok fokX7 okX7_requireSlot (by decide +kernel) (by decide +kernel) hlen hz body
abbrev rmX7_requireBlade : Room := { frames := 1, cells := 0, slots := 0, locals := 20 }
abbrev KX7_requireBlade (l : Launch) (av : List Value) (I : IM) (L : LM) (r : Option Value) (I2 : IM) (L2 : LM) : Prop := CR l kdC 181 yX7_requireBlade cX7_requireBlade 2 none rmX7_requireBlade av I L r I2 L2
theorem wX7_requireBlade (l : Launch) {av : List Value} {I : IM} {L : LM} {r : Option Value} {I2 : IM} {L2 : LM} (hlen : Nat.ble (lg_sl av).length 2 = true) (hz : none = some FieldType.boolean → ∀ x, r = some (.int x) → x = 0 ∨ x = 1) (body : ∀ V : Nat → LV → List Value → IM → LM → Prop, Ru l kdC 181 RX7 cX7_requireBlade rmX7_requireBlade FX7 tX7_requireBlade V (fun st J K => st = r.toList ∧ J = I2 ∧ K = L2) → V 0 (lv_args 0 av) [] I L) : KX7_requireBlade l av I L r I2 L2 := cr_of (y := yX7_requireBlade) (cc := cX7_requireBlade) (nL := 2) (ret := none) (rm := rmX7_requireBlade) (own := RX7) (F := FX7) (P := tX7_requireBlade) (by decide +kernel) rfl kdC_ok fokX7 okX7_requireBlade (by decide +kernel) (by decide +kernel) hlen hz body
abbrev rmX7_set : Room := { frames := 3, cells := 0, slots := 0, locals := 64 }
abbrev KX7_set (l : Launch) (av : List Value) (I : IM) (L : LM) (r : Option Value) (I2 : IM) (L2 : LM) : Prop := CR l kdC 181 yX7_set cX7_set 5 (some .int) rmX7_set av I L r I2 L2
theorem wX7_set (l : Launch) {av : List Value} {I : IM} {L : LM} {r : Option Value} {I2 : IM} {L2 : LM} (hlen : Nat.ble (lg_sl av).length 5 = true) (hz : (some .int) = some FieldType.boolean → ∀ x, r = some (.int x) → x = 0 ∨ x = 1) (body : ∀ V : Nat → LV → List Value → IM → LM → Prop, Ru l kdC 181 RX7 cX7_set rmX7_set FX7 tX7_set V (fun st J K => st = r.toList ∧ J = I2 ∧ K = L2) → V 0 (lv_args 0 av) [] I L) : KX7_set l av I L r I2 L2 := cr_of (y := yX7_set) (cc := cX7_set) (nL := 5) (ret := (some .int)) (rm := rmX7_set) (own := RX7) (F := FX7) (P := tX7_set) (by decide +kernel) rfl kdC_ok fokX7 okX7_set (by decide +kernel) (by decide +kernel) hlen hz body
abbrev rmX7_requireSlots : Room := { frames := 1, cells := 0, slots := 0, locals := 20 }
abbrev KX7_requireSlots (l : Launch) (av : List Value) (I : IM) (L : LM) (r : Option Value) (I2 : IM) (L2 : LM) : Prop := CR l kdC 181 yX7_requireSlots cX7_requireSlots 3 none rmX7_requireSlots av I L r I2 L2
theorem wX7_requireSlots (l : Launch) {av : List Value} {I : IM} {L : LM} {r : Option Value} {I2 : IM} {L2 : LM} (hlen : Nat.ble (lg_sl av).length 3 = true) (hz : none = some FieldType.boolean → ∀ x, r = some (.int x) → x = 0 ∨ x = 1) (body : ∀ V : Nat → LV → List Value → IM → LM → Prop, Ru l kdC 181 RX7 cX7_requireSlots rmX7_requireSlots FX7 tX7_requireSlots V (fun st J K => st = r.toList ∧ J = I2 ∧ K = L2) → V 0 (lv_args 0 av) [] I L) : KX7_requireSlots l av I L r I2 L2 := cr_of (y := yX7_requireSlots) (cc := cX7_requireSlots) (nL := 3) (ret := none) (rm := rmX7_requireSlots) (own := RX7) (F := FX7) (P := tX7_requireSlots) (by decide +kernel) rfl kdC_ok fokX7 okX7_requireSlots (by decide +kernel) (by decide +kernel) hlen hz body
abbrev rmX7_firstTooLarge : Room := { frames := 1, cells := 0, slots := 0, locals := 20 }
abbrev KX7_firstTooLarge (l : Launch) (av : List Value) (I : IM) (L : LM) (r : Option Value) (I2 : IM) (L2 : LM) : Prop := CR l kdC 181 yX7_firstTooLarge cX7_firstTooLarge 2 (some .int) rmX7_firstTooLarge av I L r I2 L2
theorem wX7_firstTooLarge (l : Launch) {av : List Value} {I : IM} {L : LM} {r : Option Value} {I2 : IM} {L2 : LM} (hlen : Nat.ble (lg_sl av).length 2 = true) (hz : (some .int) = some FieldType.boolean → ∀ x, r = some (.int x) → x = 0 ∨ x = 1) (body : ∀ V : Nat → LV → List Value → IM → LM → Prop, Ru l kdC 181 RX7 cX7_firstTooLarge rmX7_firstTooLarge FX7 tX7_firstTooLarge V (fun st J K => st = r.toList ∧ J = I2 ∧ K = L2) → V 0 (lv_args 0 av) [] I L) : KX7_firstTooLarge l av I L r I2 L2 := cr_of (y := yX7_firstTooLarge) (cc := cX7_firstTooLarge) (nL := 2) (ret := (some .int)) (rm := rmX7_firstTooLarge) (own := RX7) (F := FX7) (P := tX7_firstTooLarge) (by decide +kernel) rfl kdC_ok fokX7 okX7_firstTooLarge (by decide +kernel) (by decide +kernel) hlen hz body
abbrev rmX7_requireFits : Room := { frames := 2, cells := 0, slots := 0, locals := 41 }
abbrev KX7_requireFits (l : Launch) (av : List Value) (I : IM) (L : LM) (r : Option Value) (I2 : IM) (L2 : LM) : Prop := CR l kdC 181 yX7_requireFits cX7_requireFits 1 none rmX7_requireFits av I L r I2 L2
theorem wX7_requireFits (l : Launch) {av : List Value} {I : IM} {L : LM} {r : Option Value} {I2 : IM} {L2 : LM} (hlen : Nat.ble (lg_sl av).length 1 = true) (hz : none = some FieldType.boolean → ∀ x, r = some (.int x) → x = 0 ∨ x = 1) (body : ∀ V : Nat → LV → List Value → IM → LM → Prop, Ru l kdC 181 RX7 cX7_requireFits rmX7_requireFits FX7 tX7_requireFits V (fun st J K => st = r.toList ∧ J = I2 ∧ K = L2) → V 0 (lv_args 0 av) [] I L) : KX7_requireFits l av I L r I2 L2 := cr_of (y := yX7_requireFits) (cc := cX7_requireFits) (nL := 1) (ret := none) (rm := rmX7_requireFits) (own := RX7) (F := FX7) (P := tX7_requireFits) (by decide +kernel) rfl kdC_ok fokX7 okX7_requireFits (by decide +kernel) (by decide +kernel) hlen hz body
abbrev rmX7_storeResult : Room := { frames := 3, cells := 0, slots := 0, locals := 64 }
abbrev KX7_storeResult (l : Launch) (av : List Value) (I : IM) (L : LM) (r : Option Value) (I2 : IM) (L2 : LM) : Prop := CR l kdC 181 yX7_storeResult cX7_storeResult 5 (some .int) rmX7_storeResult av I L r I2 L2
theorem wX7_storeResult (l : Launch) {av : List Value} {I : IM} {L : LM} {r : Option Value} {I2 : IM} {L2 : LM} (hlen : Nat.ble (lg_sl av).length 5 = true) (hz : (some .int) = some FieldType.boolean → ∀ x, r = some (.int x) → x = 0 ∨ x = 1) (body : ∀ V : Nat → LV → List Value → IM → LM → Prop, Ru l kdC 181 RX7 cX7_storeResult rmX7_storeResult FX7 tX7_storeResult V (fun st J K => st = r.toList ∧ J = I2 ∧ K = L2) → V 0 (lv_args 0 av) [] I L) : KX7_storeResult l av I L r I2 L2 := cr_of (y := yX7_storeResult) (cc := cX7_storeResult) (nL := 5) (ret := (some .int)) (rm := rmX7_storeResult) (own := RX7) (F := FX7) (P := tX7_storeResult) (by decide +kernel) rfl kdC_ok fokX7 okX7_storeResult (by decide +kernel) (by decide +kernel) hlen hz body
abbrev rmX7_sum : Room := { frames := 4, cells := 0, slots := 0, locals := 88 }
abbrev KX7_sum (l : Launch) (av : List Value) (I : IM) (L : LM) (r : Option Value) (I2 : IM) (L2 : LM) : Prop := CR l kdC 181 yX7_sum cX7_sum 4 (some .int) rmX7_sum av I L r I2 L2
theorem wX7_sum (l : Launch) {av : List Value} {I : IM} {L : LM} {r : Option Value} {I2 : IM} {L2 : LM} (hlen : Nat.ble (lg_sl av).length 4 = true) (hz : (some .int) = some FieldType.boolean → ∀ x, r = some (.int x) → x = 0 ∨ x = 1) (body : ∀ V : Nat → LV → List Value → IM → LM → Prop, Ru l kdC 181 RX7 cX7_sum rmX7_sum FX7 tX7_sum V (fun st J K => st = r.toList ∧ J = I2 ∧ K = L2) → V 0 (lv_args 0 av) [] I L) : KX7_sum l av I L r I2 L2 := cr_of (y := yX7_sum) (cc := cX7_sum) (nL := 4) (ret := (some .int)) (rm := rmX7_sum) (own := RX7) (F := FX7) (P := tX7_sum) (by decide +kernel) rfl kdC_ok fokX7 okX7_sum (by decide +kernel) (by decide +kernel) hlen hz body
abbrev rmX7_scale : Room := { frames := 4, cells := 0, slots := 0, locals := 88 }
abbrev KX7_scale (l : Launch) (av : List Value) (I : IM) (L : LM) (r : Option Value) (I2 : IM) (L2 : LM) : Prop := CR l kdC 181 yX7_scale cX7_scale 4 (some .int) rmX7_scale av I L r I2 L2
theorem wX7_scale (l : Launch) {av : List Value} {I : IM} {L : LM} {r : Option Value} {I2 : IM} {L2 : LM} (hlen : Nat.ble (lg_sl av).length 4 = true) (hz : (some .int) = some FieldType.boolean → ∀ x, r = some (.int x) → x = 0 ∨ x = 1) (body : ∀ V : Nat → LV → List Value → IM → LM → Prop, Ru l kdC 181 RX7 cX7_scale rmX7_scale FX7 tX7_scale V (fun st J K => st = r.toList ∧ J = I2 ∧ K = L2) → V 0 (lv_args 0 av) [] I L) : KX7_scale l av I L r I2 L2 := cr_of (y := yX7_scale) (cc := cX7_scale) (nL := 4) (ret := (some .int)) (rm := rmX7_scale) (own := RX7) (F := FX7) (P := tX7_scale) (by decide +kernel) rfl kdC_ok fokX7 okX7_scale (by decide +kernel) (by decide +kernel) hlen hz body
abbrev rmX7_wedge : Room := { frames := 4, cells := 0, slots := 0, locals := 88 }
abbrev KX7_wedge (l : Launch) (av : List Value) (I : IM) (L : LM) (r : Option Value) (I2 : IM) (L2 : LM) : Prop := CR l kdC 181 yX7_wedge cX7_wedge 4 (some .int) rmX7_wedge av I L r I2 L2
theorem wX7_wedge (l : Launch) {av : List Value} {I : IM} {L : LM} {r : Option Value} {I2 : IM} {L2 : LM} (hlen : Nat.ble (lg_sl av).length 4 = true) (hz : (some .int) = some FieldType.boolean → ∀ x, r = some (.int x) → x = 0 ∨ x = 1) (body : ∀ V : Nat → LV → List Value → IM → LM → Prop, Ru l kdC 181 RX7 cX7_wedge rmX7_wedge FX7 tX7_wedge V (fun st J K => st = r.toList ∧ J = I2 ∧ K = L2) → V 0 (lv_args 0 av) [] I L) : KX7_wedge l av I L r I2 L2 := cr_of (y := yX7_wedge) (cc := cX7_wedge) (nL := 4) (ret := (some .int)) (rm := rmX7_wedge) (own := RX7) (F := FX7) (P := tX7_wedge) (by decide +kernel) rfl kdC_ok fokX7 okX7_wedge (by decide +kernel) (by decide +kernel) hlen hz body
abbrev rmX7_contract : Room := { frames := 4, cells := 0, slots := 0, locals := 88 }
abbrev KX7_contract (l : Launch) (av : List Value) (I : IM) (L : LM) (r : Option Value) (I2 : IM) (L2 : LM) : Prop := CR l kdC 181 yX7_contract cX7_contract 4 (some .int) rmX7_contract av I L r I2 L2
theorem wX7_contract (l : Launch) {av : List Value} {I : IM} {L : LM} {r : Option Value} {I2 : IM} {L2 : LM} (hlen : Nat.ble (lg_sl av).length 4 = true) (hz : (some .int) = some FieldType.boolean → ∀ x, r = some (.int x) → x = 0 ∨ x = 1) (body : ∀ V : Nat → LV → List Value → IM → LM → Prop, Ru l kdC 181 RX7 cX7_contract rmX7_contract FX7 tX7_contract V (fun st J K => st = r.toList ∧ J = I2 ∧ K = L2) → V 0 (lv_args 0 av) [] I L) : KX7_contract l av I L r I2 L2 := cr_of (y := yX7_contract) (cc := cX7_contract) (nL := 4) (ret := (some .int)) (rm := rmX7_contract) (own := RX7) (F := FX7) (P := tX7_contract) (by decide +kernel) rfl kdC_ok fokX7 okX7_contract (by decide +kernel) (by decide +kernel) hlen hz body
abbrev rmX7_star : Room := { frames := 4, cells := 0, slots := 0, locals := 88 }
abbrev KX7_star (l : Launch) (av : List Value) (I : IM) (L : LM) (r : Option Value) (I2 : IM) (L2 : LM) : Prop := CR l kdC 181 yX7_star cX7_star 3 (some .int) rmX7_star av I L r I2 L2
theorem wX7_star (l : Launch) {av : List Value} {I : IM} {L : LM} {r : Option Value} {I2 : IM} {L2 : LM} (hlen : Nat.ble (lg_sl av).length 3 = true) (hz : (some .int) = some FieldType.boolean → ∀ x, r = some (.int x) → x = 0 ∨ x = 1) (body : ∀ V : Nat → LV → List Value → IM → LM → Prop, Ru l kdC 181 RX7 cX7_star rmX7_star FX7 tX7_star V (fun st J K => st = r.toList ∧ J = I2 ∧ K = L2) → V 0 (lv_args 0 av) [] I L) : KX7_star l av I L r I2 L2 := cr_of (y := yX7_star) (cc := cX7_star) (nL := 3) (ret := (some .int)) (rm := rmX7_star) (own := RX7) (F := FX7) (P := tX7_star) (by decide +kernel) rfl kdC_ok fokX7 okX7_star (by decide +kernel) (by decide +kernel) hlen hz body
abbrev rmX7_requireGrade : Room := { frames := 0, cells := 0, slots := 0, locals := 0 }
abbrev KX7_requireGrade (l : Launch) (av : List Value) (I : IM) (L : LM) (r : Option Value) (I2 : IM) (L2 : LM) : Prop := CR l kdC 181 yX7_requireGrade cX7_requireGrade 2 none rmX7_requireGrade av I L r I2 L2
theorem wX7_requireGrade (l : Launch) {av : List Value} {I : IM} {L : LM} {r : Option Value} {I2 : IM} {L2 : LM} (hlen : Nat.ble (lg_sl av).length 2 = true) (hz : none = some FieldType.boolean → ∀ x, r = some (.int x) → x = 0 ∨ x = 1) (body : ∀ V : Nat → LV → List Value → IM → LM → Prop, Ru l kdC 181 RX7 cX7_requireGrade rmX7_requireGrade FX7 tX7_requireGrade V (fun st J K => st = r.toList ∧ J = I2 ∧ K = L2) → V 0 (lv_args 0 av) [] I L) : KX7_requireGrade l av I L r I2 L2 := cr_of (y := yX7_requireGrade) (cc := cX7_requireGrade) (nL := 2) (ret := none) (rm := rmX7_requireGrade) (own := RX7) (F := FX7) (P := tX7_requireGrade) (by decide +kernel) rfl kdC_ok fokX7 okX7_requireGrade (by decide +kernel) (by decide +kernel) hlen hz body
abbrev rmX7_part : Room := { frames := 4, cells := 0, slots := 0, locals := 88 }
abbrev KX7_part (l : Launch) (av : List Value) (I : IM) (L : LM) (r : Option Value) (I2 : IM) (L2 : LM) : Prop := CR l kdC 181 yX7_part cX7_part 4 (some .int) rmX7_part av I L r I2 L2
theorem wX7_part (l : Launch) {av : List Value} {I : IM} {L : LM} {r : Option Value} {I2 : IM} {L2 : LM} (hlen : Nat.ble (lg_sl av).length 4 = true) (hz : (some .int) = some FieldType.boolean → ∀ x, r = some (.int x) → x = 0 ∨ x = 1) (body : ∀ V : Nat → LV → List Value → IM → LM → Prop, Ru l kdC 181 RX7 cX7_part rmX7_part FX7 tX7_part V (fun st J K => st = r.toList ∧ J = I2 ∧ K = L2) → V 0 (lv_args 0 av) [] I L) : KX7_part l av I L r I2 L2 := cr_of (y := yX7_part) (cc := cX7_part) (nL := 4) (ret := (some .int)) (rm := rmX7_part) (own := RX7) (F := FX7) (P := tX7_part) (by decide +kernel) rfl kdC_ok fokX7 okX7_part (by decide +kernel) (by decide +kernel) hlen hz body
abbrev rmX7_reverse : Room := { frames := 4, cells := 0, slots := 0, locals := 88 }
abbrev KX7_reverse (l : Launch) (av : List Value) (I : IM) (L : LM) (r : Option Value) (I2 : IM) (L2 : LM) : Prop := CR l kdC 181 yX7_reverse cX7_reverse 3 (some .int) rmX7_reverse av I L r I2 L2
theorem wX7_reverse (l : Launch) {av : List Value} {I : IM} {L : LM} {r : Option Value} {I2 : IM} {L2 : LM} (hlen : Nat.ble (lg_sl av).length 3 = true) (hz : (some .int) = some FieldType.boolean → ∀ x, r = some (.int x) → x = 0 ∨ x = 1) (body : ∀ V : Nat → LV → List Value → IM → LM → Prop, Ru l kdC 181 RX7 cX7_reverse rmX7_reverse FX7 tX7_reverse V (fun st J K => st = r.toList ∧ J = I2 ∧ K = L2) → V 0 (lv_args 0 av) [] I L) : KX7_reverse l av I L r I2 L2 := cr_of (y := yX7_reverse) (cc := cX7_reverse) (nL := 3) (ret := (some .int)) (rm := rmX7_reverse) (own := RX7) (F := FX7) (P := tX7_reverse) (by decide +kernel) rfl kdC_ok fokX7 okX7_reverse (by decide +kernel) (by decide +kernel) hlen hz body
abbrev rmX7_push : Room := { frames := 5, cells := 0, slots := 0, locals := 123 }
abbrev KX7_push (l : Launch) (av : List Value) (I : IM) (L : LM) (r : Option Value) (I2 : IM) (L2 : LM) : Prop := CR l kdC 181 yX7_push cX7_push 3 (some .int) rmX7_push av I L r I2 L2
theorem wX7_push (l : Launch) {av : List Value} {I : IM} {L : LM} {r : Option Value} {I2 : IM} {L2 : LM} (hlen : Nat.ble (lg_sl av).length 3 = true) (hz : (some .int) = some FieldType.boolean → ∀ x, r = some (.int x) → x = 0 ∨ x = 1) (body : ∀ V : Nat → LV → List Value → IM → LM → Prop, Ru l kdC 181 RX7 cX7_push rmX7_push FX7 tX7_push V (fun st J K => st = r.toList ∧ J = I2 ∧ K = L2) → V 0 (lv_args 0 av) [] I L) : KX7_push l av I L r I2 L2 := cr_of (y := yX7_push) (cc := cX7_push) (nL := 3) (ret := (some .int)) (rm := rmX7_push) (own := RX7) (F := FX7) (P := tX7_push) (by decide +kernel) rfl kdC_ok fokX7 okX7_push (by decide +kernel) (by decide +kernel) hlen hz body
abbrev rmX7_append : Room := { frames := 0, cells := 0, slots := 0, locals := 0 }
abbrev KX7_append (l : Launch) (av : List Value) (I : IM) (L : LM) (r : Option Value) (I2 : IM) (L2 : LM) : Prop := CR l kdC 181 yX7_append cX7_append 2 (some .int) rmX7_append av I L r I2 L2
theorem wX7_append (l : Launch) {av : List Value} {I : IM} {L : LM} {r : Option Value} {I2 : IM} {L2 : LM} (hlen : Nat.ble (lg_sl av).length 2 = true) (hz : (some .int) = some FieldType.boolean → ∀ x, r = some (.int x) → x = 0 ∨ x = 1) (body : ∀ V : Nat → LV → List Value → IM → LM → Prop, Ru l kdC 181 RX7 cX7_append rmX7_append FX7 tX7_append V (fun st J K => st = r.toList ∧ J = I2 ∧ K = L2) → V 0 (lv_args 0 av) [] I L) : KX7_append l av I L r I2 L2 := cr_of (y := yX7_append) (cc := cX7_append) (nL := 2) (ret := (some .int)) (rm := rmX7_append) (own := RX7) (F := FX7) (P := tX7_append) (by decide +kernel) rfl kdC_ok fokX7 okX7_append (by decide +kernel) (by decide +kernel) hlen hz body
abbrev rmX7_clearBuffer : Room := { frames := 0, cells := 0, slots := 0, locals := 0 }
abbrev KX7_clearBuffer (l : Launch) (av : List Value) (I : IM) (L : LM) (r : Option Value) (I2 : IM) (L2 : LM) : Prop := CR l kdC 181 yX7_clearBuffer cX7_clearBuffer 2 (some .int) rmX7_clearBuffer av I L r I2 L2
theorem wX7_clearBuffer (l : Launch) {av : List Value} {I : IM} {L : LM} {r : Option Value} {I2 : IM} {L2 : LM} (hlen : Nat.ble (lg_sl av).length 2 = true) (hz : (some .int) = some FieldType.boolean → ∀ x, r = some (.int x) → x = 0 ∨ x = 1) (body : ∀ V : Nat → LV → List Value → IM → LM → Prop, Ru l kdC 181 RX7 cX7_clearBuffer rmX7_clearBuffer FX7 tX7_clearBuffer V (fun st J K => st = r.toList ∧ J = I2 ∧ K = L2) → V 0 (lv_args 0 av) [] I L) : KX7_clearBuffer l av I L r I2 L2 := cr_of (y := yX7_clearBuffer) (cc := cX7_clearBuffer) (nL := 2) (ret := (some .int)) (rm := rmX7_clearBuffer) (own := RX7) (F := FX7) (P := tX7_clearBuffer) (by decide +kernel) rfl kdC_ok fokX7 okX7_clearBuffer (by decide +kernel) (by decide +kernel) hlen hz body
abbrev rmX7_firstError : Room := { frames := 4, cells := 0, slots := 0, locals := 87 }
abbrev KX7_firstError (l : Launch) (av : List Value) (I : IM) (L : LM) (r : Option Value) (I2 : IM) (L2 : LM) : Prop := CR l kdC 181 yX7_firstError cX7_firstError 1 (some .int) rmX7_firstError av I L r I2 L2
theorem wX7_firstError (l : Launch) {av : List Value} {I : IM} {L : LM} {r : Option Value} {I2 : IM} {L2 : LM} (hlen : Nat.ble (lg_sl av).length 1 = true) (hz : (some .int) = some FieldType.boolean → ∀ x, r = some (.int x) → x = 0 ∨ x = 1) (body : ∀ V : Nat → LV → List Value → IM → LM → Prop, Ru l kdC 181 RX7 cX7_firstError rmX7_firstError FX7 tX7_firstError V (fun st J K => st = r.toList ∧ J = I2 ∧ K = L2) → V 0 (lv_args 0 av) [] I L) : KX7_firstError l av I L r I2 L2 := cr_of (y := yX7_firstError) (cc := cX7_firstError) (nL := 1) (ret := (some .int)) (rm := rmX7_firstError) (own := RX7) (F := FX7) (P := tX7_firstError) (by decide +kernel) rfl kdC_ok fokX7 okX7_firstError (by decide +kernel) (by decide +kernel) hlen hz body
abbrev rmX7_put : Room := { frames := 4, cells := 0, slots := 0, locals := 87 }
abbrev KX7_put (l : Launch) (av : List Value) (I : IM) (L : LM) (r : Option Value) (I2 : IM) (L2 : LM) : Prop := CR l kdC 181 yX7_put cX7_put 3 (some .int) rmX7_put av I L r I2 L2
theorem wX7_put (l : Launch) {av : List Value} {I : IM} {L : LM} {r : Option Value} {I2 : IM} {L2 : LM} (hlen : Nat.ble (lg_sl av).length 3 = true) (hz : (some .int) = some FieldType.boolean → ∀ x, r = some (.int x) → x = 0 ∨ x = 1) (body : ∀ V : Nat → LV → List Value → IM → LM → Prop, Ru l kdC 181 RX7 cX7_put rmX7_put FX7 tX7_put V (fun st J K => st = r.toList ∧ J = I2 ∧ K = L2) → V 0 (lv_args 0 av) [] I L) : KX7_put l av I L r I2 L2 := cr_of (y := yX7_put) (cc := cX7_put) (nL := 3) (ret := (some .int)) (rm := rmX7_put) (own := RX7) (F := FX7) (P := tX7_put) (by decide +kernel) rfl kdC_ok fokX7 okX7_put (by decide +kernel) (by decide +kernel) hlen hz body
abbrev rmX7_requireSnapshot : Room := { frames := 0, cells := 0, slots := 0, locals := 0 }
abbrev KX7_requireSnapshot (l : Launch) (av : List Value) (I : IM) (L : LM) (r : Option Value) (I2 : IM) (L2 : LM) : Prop := CR l kdC 181 yX7_requireSnapshot cX7_requireSnapshot 1 none rmX7_requireSnapshot av I L r I2 L2
theorem wX7_requireSnapshot (l : Launch) {av : List Value} {I : IM} {L : LM} {r : Option Value} {I2 : IM} {L2 : LM} (hlen : Nat.ble (lg_sl av).length 1 = true) (hz : none = some FieldType.boolean → ∀ x, r = some (.int x) → x = 0 ∨ x = 1) (body : ∀ V : Nat → LV → List Value → IM → LM → Prop, Ru l kdC 181 RX7 cX7_requireSnapshot rmX7_requireSnapshot FX7 tX7_requireSnapshot V (fun st J K => st = r.toList ∧ J = I2 ∧ K = L2) → V 0 (lv_args 0 av) [] I L) : KX7_requireSnapshot l av I L r I2 L2 := cr_of (y := yX7_requireSnapshot) (cc := cX7_requireSnapshot) (nL := 1) (ret := none) (rm := rmX7_requireSnapshot) (own := RX7) (F := FX7) (P := tX7_requireSnapshot) (by decide +kernel) rfl kdC_ok fokX7 okX7_requireSnapshot (by decide +kernel) (by decide +kernel) hlen hz body
abbrev rmX7_take : Room := { frames := 2, cells := 0, slots := 0, locals := 43 }
abbrev KX7_take (l : Launch) (av : List Value) (I : IM) (L : LM) (r : Option Value) (I2 : IM) (L2 : LM) : Prop := CR l kdC 181 yX7_take cX7_take 2 (some .int) rmX7_take av I L r I2 L2
theorem wX7_take (l : Launch) {av : List Value} {I : IM} {L : LM} {r : Option Value} {I2 : IM} {L2 : LM} (hlen : Nat.ble (lg_sl av).length 2 = true) (hz : (some .int) = some FieldType.boolean → ∀ x, r = some (.int x) → x = 0 ∨ x = 1) (body : ∀ V : Nat → LV → List Value → IM → LM → Prop, Ru l kdC 181 RX7 cX7_take rmX7_take FX7 tX7_take V (fun st J K => st = r.toList ∧ J = I2 ∧ K = L2) → V 0 (lv_args 0 av) [] I L) : KX7_take l av I L r I2 L2 := cr_of (y := yX7_take) (cc := cX7_take) (nL := 2) (ret := (some .int)) (rm := rmX7_take) (own := RX7) (F := FX7) (P := tX7_take) (by decide +kernel) rfl kdC_ok fokX7 okX7_take (by decide +kernel) (by decide +kernel) hlen hz body
abbrev rmX7_restore : Room := { frames := 3, cells := 0, slots := 0, locals := 64 }
abbrev KX7_restore (l : Launch) (av : List Value) (I : IM) (L : LM) (r : Option Value) (I2 : IM) (L2 : LM) : Prop := CR l kdC 181 yX7_restore cX7_restore 2 (some .int) rmX7_restore av I L r I2 L2
theorem wX7_restore (l : Launch) {av : List Value} {I : IM} {L : LM} {r : Option Value} {I2 : IM} {L2 : LM} (hlen : Nat.ble (lg_sl av).length 2 = true) (hz : (some .int) = some FieldType.boolean → ∀ x, r = some (.int x) → x = 0 ∨ x = 1) (body : ∀ V : Nat → LV → List Value → IM → LM → Prop, Ru l kdC 181 RX7 cX7_restore rmX7_restore FX7 tX7_restore V (fun st J K => st = r.toList ∧ J = I2 ∧ K = L2) → V 0 (lv_args 0 av) [] I L) : KX7_restore l av I L r I2 L2 := cr_of (y := yX7_restore) (cc := cX7_restore) (nL := 2) (ret := (some .int)) (rm := rmX7_restore) (own := RX7) (F := FX7) (P := tX7_restore) (by decide +kernel) rfl kdC_ok fokX7 okX7_restore (by decide +kernel) (by decide +kernel) hlen hz body
abbrev rmX7_undo : Room := { frames := 3, cells := 0, slots := 0, locals := 64 }
abbrev KX7_undo (l : Launch) (av : List Value) (I : IM) (L : LM) (r : Option Value) (I2 : IM) (L2 : LM) : Prop := CR l kdC 181 yX7_undo cX7_undo 1 (some .int) rmX7_undo av I L r I2 L2
theorem wX7_undo (l : Launch) {av : List Value} {I : IM} {L : LM} {r : Option Value} {I2 : IM} {L2 : LM} (hlen : Nat.ble (lg_sl av).length 1 = true) (hz : (some .int) = some FieldType.boolean → ∀ x, r = some (.int x) → x = 0 ∨ x = 1) (body : ∀ V : Nat → LV → List Value → IM → LM → Prop, Ru l kdC 181 RX7 cX7_undo rmX7_undo FX7 tX7_undo V (fun st J K => st = r.toList ∧ J = I2 ∧ K = L2) → V 0 (lv_args 0 av) [] I L) : KX7_undo l av I L r I2 L2 := cr_of (y := yX7_undo) (cc := cX7_undo) (nL := 1) (ret := (some .int)) (rm := rmX7_undo) (own := RX7) (F := FX7) (P := tX7_undo) (by decide +kernel) rfl kdC_ok fokX7 okX7_undo (by decide +kernel) (by decide +kernel) hlen hz body
abbrev rmX7_coefficient : Room := { frames := 2, cells := 0, slots := 0, locals := 41 }
abbrev KX7_coefficient (l : Launch) (av : List Value) (I : IM) (L : LM) (r : Option Value) (I2 : IM) (L2 : LM) : Prop := CR l kdC 181 yX7_coefficient cX7_coefficient 3 (some .int) rmX7_coefficient av I L r I2 L2
theorem wX7_coefficient (l : Launch) {av : List Value} {I : IM} {L : LM} {r : Option Value} {I2 : IM} {L2 : LM} (hlen : Nat.ble (lg_sl av).length 3 = true) (hz : (some .int) = some FieldType.boolean → ∀ x, r = some (.int x) → x = 0 ∨ x = 1) (body : ∀ V : Nat → LV → List Value → IM → LM → Prop, Ru l kdC 181 RX7 cX7_coefficient rmX7_coefficient FX7 tX7_coefficient V (fun st J K => st = r.toList ∧ J = I2 ∧ K = L2) → V 0 (lv_args 0 av) [] I L) : KX7_coefficient l av I L r I2 L2 := cr_of (y := yX7_coefficient) (cc := cX7_coefficient) (nL := 3) (ret := (some .int)) (rm := rmX7_coefficient) (own := RX7) (F := FX7) (P := tX7_coefficient) (by decide +kernel) rfl kdC_ok fokX7 okX7_coefficient (by decide +kernel) (by decide +kernel) hlen hz body
abbrev rmX7_form : Room := { frames := 4, cells := 0, slots := 0, locals := 84 }
abbrev KX7_form (l : Launch) (av : List Value) (I : IM) (L : LM) (r : Option Value) (I2 : IM) (L2 : LM) : Prop := CR l kdC 181 yX7_form cX7_form 3 (some .int) rmX7_form av I L r I2 L2
theorem wX7_form (l : Launch) {av : List Value} {I : IM} {L : LM} {r : Option Value} {I2 : IM} {L2 : LM} (hlen : Nat.ble (lg_sl av).length 3 = true) (hz : (some .int) = some FieldType.boolean → ∀ x, r = some (.int x) → x = 0 ∨ x = 1) (body : ∀ V : Nat → LV → List Value → IM → LM → Prop, Ru l kdC 181 RX7 cX7_form rmX7_form FX7 tX7_form V (fun st J K => st = r.toList ∧ J = I2 ∧ K = L2) → V 0 (lv_args 0 av) [] I L) : KX7_form l av I L r I2 L2 := cr_of (y := yX7_form) (cc := cX7_form) (nL := 3) (ret := (some .int)) (rm := rmX7_form) (own := RX7) (F := FX7) (P := tX7_form) (by decide +kernel) rfl kdC_ok fokX7 okX7_form (by decide +kernel) (by decide +kernel) hlen hz body
abbrev rmX7_inner : Room := { frames := 2, cells := 0, slots := 0, locals := 50 }
abbrev KX7_inner (l : Launch) (av : List Value) (I : IM) (L : LM) (r : Option Value) (I2 : IM) (L2 : LM) : Prop := CR l kdC 181 yX7_inner cX7_inner 3 (some .long) rmX7_inner av I L r I2 L2
theorem wX7_inner (l : Launch) {av : List Value} {I : IM} {L : LM} {r : Option Value} {I2 : IM} {L2 : LM} (hlen : Nat.ble (lg_sl av).length 3 = true) (hz : (some .long) = some FieldType.boolean → ∀ x, r = some (.int x) → x = 0 ∨ x = 1) (body : ∀ V : Nat → LV → List Value → IM → LM → Prop, Ru l kdC 181 RX7 cX7_inner rmX7_inner FX7 tX7_inner V (fun st J K => st = r.toList ∧ J = I2 ∧ K = L2) → V 0 (lv_args 0 av) [] I L) : KX7_inner l av I L r I2 L2 := cr_of (y := yX7_inner) (cc := cX7_inner) (nL := 3) (ret := (some .long)) (rm := rmX7_inner) (own := RX7) (F := FX7) (P := tX7_inner) (by decide +kernel) rfl kdC_ok fokX7 okX7_inner (by decide +kernel) (by decide +kernel) hlen hz body
abbrev rmX7_resultIsZero : Room := { frames := 1, cells := 0, slots := 0, locals := 20 }
abbrev KX7_resultIsZero (l : Launch) (av : List Value) (I : IM) (L : LM) (r : Option Value) (I2 : IM) (L2 : LM) : Prop := CR l kdC 181 yX7_resultIsZero cX7_resultIsZero 2 (some .boolean) rmX7_resultIsZero av I L r I2 L2
theorem wX7_resultIsZero (l : Launch) {av : List Value} {I : IM} {L : LM} {r : Option Value} {I2 : IM} {L2 : LM} (hlen : Nat.ble (lg_sl av).length 2 = true) (hz : (some .boolean) = some FieldType.boolean → ∀ x, r = some (.int x) → x = 0 ∨ x = 1) (body : ∀ V : Nat → LV → List Value → IM → LM → Prop, Ru l kdC 181 RX7 cX7_resultIsZero rmX7_resultIsZero FX7 tX7_resultIsZero V (fun st J K => st = r.toList ∧ J = I2 ∧ K = L2) → V 0 (lv_args 0 av) [] I L) : KX7_resultIsZero l av I L r I2 L2 := cr_of (y := yX7_resultIsZero) (cc := cX7_resultIsZero) (nL := 2) (ret := (some .boolean)) (rm := rmX7_resultIsZero) (own := RX7) (F := FX7) (P := tX7_resultIsZero) (by decide +kernel) rfl kdC_ok fokX7 okX7_resultIsZero (by decide +kernel) (by decide +kernel) hlen hz body
abbrev rmX7_wedgeWithPartnerIsZero : Room := { frames := 3, cells := 0, slots := 0, locals := 69 }
abbrev KX7_wedgeWithPartnerIsZero (l : Launch) (av : List Value) (I : IM) (L : LM) (r : Option Value) (I2 : IM) (L2 : LM) : Prop := CR l kdC 181 yX7_wedgeWithPartnerIsZero cX7_wedgeWithPartnerIsZero 4 (some .boolean) rmX7_wedgeWithPartnerIsZero av I L r I2 L2
theorem wX7_wedgeWithPartnerIsZero (l : Launch) {av : List Value} {I : IM} {L : LM} {r : Option Value} {I2 : IM} {L2 : LM} (hlen : Nat.ble (lg_sl av).length 4 = true) (hz : (some .boolean) = some FieldType.boolean → ∀ x, r = some (.int x) → x = 0 ∨ x = 1) (body : ∀ V : Nat → LV → List Value → IM → LM → Prop, Ru l kdC 181 RX7 cX7_wedgeWithPartnerIsZero rmX7_wedgeWithPartnerIsZero FX7 tX7_wedgeWithPartnerIsZero V (fun st J K => st = r.toList ∧ J = I2 ∧ K = L2) → V 0 (lv_args 0 av) [] I L) : KX7_wedgeWithPartnerIsZero l av I L r I2 L2 := cr_of (y := yX7_wedgeWithPartnerIsZero) (cc := cX7_wedgeWithPartnerIsZero) (nL := 4) (ret := (some .boolean)) (rm := rmX7_wedgeWithPartnerIsZero) (own := RX7) (F := FX7) (P := tX7_wedgeWithPartnerIsZero) (by decide +kernel) rfl kdC_ok fokX7 okX7_wedgeWithPartnerIsZero (by decide +kernel) (by decide +kernel) hlen hz body
abbrev rmX7_decomposableAsTold : Room := { frames := 4, cells := 0, slots := 0, locals := 92 }
abbrev KX7_decomposableAsTold (l : Launch) (av : List Value) (I : IM) (L : LM) (r : Option Value) (I2 : IM) (L2 : LM) : Prop := CR l kdC 181 yX7_decomposableAsTold cX7_decomposableAsTold 5 (some .int) rmX7_decomposableAsTold av I L r I2 L2
theorem wX7_decomposableAsTold (l : Launch) {av : List Value} {I : IM} {L : LM} {r : Option Value} {I2 : IM} {L2 : LM} (hlen : Nat.ble (lg_sl av).length 5 = true) (hz : (some .int) = some FieldType.boolean → ∀ x, r = some (.int x) → x = 0 ∨ x = 1) (body : ∀ V : Nat → LV → List Value → IM → LM → Prop, Ru l kdC 181 RX7 cX7_decomposableAsTold rmX7_decomposableAsTold FX7 tX7_decomposableAsTold V (fun st J K => st = r.toList ∧ J = I2 ∧ K = L2) → V 0 (lv_args 0 av) [] I L) : KX7_decomposableAsTold l av I L r I2 L2 := cr_of (y := yX7_decomposableAsTold) (cc := cX7_decomposableAsTold) (nL := 5) (ret := (some .int)) (rm := rmX7_decomposableAsTold) (own := RX7) (F := FX7) (P := tX7_decomposableAsTold) (by decide +kernel) rfl kdC_ok fokX7 okX7_decomposableAsTold (by decide +kernel) (by decide +kernel) hlen hz body
abbrev rmX7_decomposableByAnnihilator : Room := { frames := 5, cells := 0, slots := 0, locals := 120 }
abbrev KX7_decomposableByAnnihilator (l : Launch) (av : List Value) (I : IM) (L : LM) (r : Option Value) (I2 : IM) (L2 : LM) : Prop := CR l kdC 181 yX7_decomposableByAnnihilator cX7_decomposableByAnnihilator 5 (some .int) rmX7_decomposableByAnnihilator av I L r I2 L2
theorem wX7_decomposableByAnnihilator (l : Launch) {av : List Value} {I : IM} {L : LM} {r : Option Value} {I2 : IM} {L2 : LM} (hlen : Nat.ble (lg_sl av).length 5 = true) (hz : (some .int) = some FieldType.boolean → ∀ x, r = some (.int x) → x = 0 ∨ x = 1) (body : ∀ V : Nat → LV → List Value → IM → LM → Prop, Ru l kdC 181 RX7 cX7_decomposableByAnnihilator rmX7_decomposableByAnnihilator FX7 tX7_decomposableByAnnihilator V (fun st J K => st = r.toList ∧ J = I2 ∧ K = L2) → V 0 (lv_args 0 av) [] I L) : KX7_decomposableByAnnihilator l av I L r I2 L2 := cr_of (y := yX7_decomposableByAnnihilator) (cc := cX7_decomposableByAnnihilator) (nL := 5) (ret := (some .int)) (rm := rmX7_decomposableByAnnihilator) (own := RX7) (F := FX7) (P := tX7_decomposableByAnnihilator) (by decide +kernel) rfl kdC_ok fokX7 okX7_decomposableByAnnihilator (by decide +kernel) (by decide +kernel) hlen hz body
abbrev rmX7_decomposable : Room := { frames := 6, cells := 0, slots := 0, locals := 144 }
abbrev KX7_decomposable (l : Launch) (av : List Value) (I : IM) (L : LM) (r : Option Value) (I2 : IM) (L2 : LM) : Prop := CR l kdC 181 yX7_decomposable cX7_decomposable 3 (some .int) rmX7_decomposable av I L r I2 L2
theorem wX7_decomposable (l : Launch) {av : List Value} {I : IM} {L : LM} {r : Option Value} {I2 : IM} {L2 : LM} (hlen : Nat.ble (lg_sl av).length 3 = true) (hz : (some .int) = some FieldType.boolean → ∀ x, r = some (.int x) → x = 0 ∨ x = 1) (body : ∀ V : Nat → LV → List Value → IM → LM → Prop, Ru l kdC 181 RX7 cX7_decomposable rmX7_decomposable FX7 tX7_decomposable V (fun st J K => st = r.toList ∧ J = I2 ∧ K = L2) → V 0 (lv_args 0 av) [] I L) : KX7_decomposable l av I L r I2 L2 := cr_of (y := yX7_decomposable) (cc := cX7_decomposable) (nL := 3) (ret := (some .int)) (rm := rmX7_decomposable) (own := RX7) (F := FX7) (P := tX7_decomposable) (by decide +kernel) rfl kdC_ok fokX7 okX7_decomposable (by decide +kernel) (by decide +kernel) hlen hz body
abbrev rmX7_requirePlace : Room := { frames := 0, cells := 0, slots := 0, locals := 0 }
abbrev KX7_requirePlace (l : Launch) (av : List Value) (I : IM) (L : LM) (r : Option Value) (I2 : IM) (L2 : LM) : Prop := CR l kdC 181 yX7_requirePlace cX7_requirePlace 1 none rmX7_requirePlace av I L r I2 L2
theorem wX7_requirePlace (l : Launch) {av : List Value} {I : IM} {L : LM} {r : Option Value} {I2 : IM} {L2 : LM} (hlen : Nat.ble (lg_sl av).length 1 = true) (hz : none = some FieldType.boolean → ∀ x, r = some (.int x) → x = 0 ∨ x = 1) (body : ∀ V : Nat → LV → List Value → IM → LM → Prop, Ru l kdC 181 RX7 cX7_requirePlace rmX7_requirePlace FX7 tX7_requirePlace V (fun st J K => st = r.toList ∧ J = I2 ∧ K = L2) → V 0 (lv_args 0 av) [] I L) : KX7_requirePlace l av I L r I2 L2 := cr_of (y := yX7_requirePlace) (cc := cX7_requirePlace) (nL := 1) (ret := none) (rm := rmX7_requirePlace) (own := RX7) (F := FX7) (P := tX7_requirePlace) (by decide +kernel) rfl kdC_ok fokX7 okX7_requirePlace (by decide +kernel) (by decide +kernel) hlen hz body
abbrev rmX7_countFactors : Room := { frames := 5, cells := 0, slots := 0, locals := 116 }
abbrev KX7_countFactors (l : Launch) (av : List Value) (I : IM) (L : LM) (r : Option Value) (I2 : IM) (L2 : LM) : Prop := CR l kdC 181 yX7_countFactors cX7_countFactors 2 (some .int) rmX7_countFactors av I L r I2 L2
theorem wX7_countFactors (l : Launch) {av : List Value} {I : IM} {L : LM} {r : Option Value} {I2 : IM} {L2 : LM} (hlen : Nat.ble (lg_sl av).length 2 = true) (hz : (some .int) = some FieldType.boolean → ∀ x, r = some (.int x) → x = 0 ∨ x = 1) (body : ∀ V : Nat → LV → List Value → IM → LM → Prop, Ru l kdC 181 RX7 cX7_countFactors rmX7_countFactors FX7 tX7_countFactors V (fun st J K => st = r.toList ∧ J = I2 ∧ K = L2) → V 0 (lv_args 0 av) [] I L) : KX7_countFactors l av I L r I2 L2 := cr_of (y := yX7_countFactors) (cc := cX7_countFactors) (nL := 2) (ret := (some .int)) (rm := rmX7_countFactors) (own := RX7) (F := FX7) (P := tX7_countFactors) (by decide +kernel) rfl kdC_ok fokX7 okX7_countFactors (by decide +kernel) (by decide +kernel) hlen hz body
abbrev rmX7_factor : Room := { frames := 6, cells := 0, slots := 0, locals := 137 }
abbrev KX7_factor (l : Launch) (av : List Value) (I : IM) (L : LM) (r : Option Value) (I2 : IM) (L2 : LM) : Prop := CR l kdC 181 yX7_factor cX7_factor 4 (some .int) rmX7_factor av I L r I2 L2
theorem wX7_factor (l : Launch) {av : List Value} {I : IM} {L : LM} {r : Option Value} {I2 : IM} {L2 : LM} (hlen : Nat.ble (lg_sl av).length 4 = true) (hz : (some .int) = some FieldType.boolean → ∀ x, r = some (.int x) → x = 0 ∨ x = 1) (body : ∀ V : Nat → LV → List Value → IM → LM → Prop, Ru l kdC 181 RX7 cX7_factor rmX7_factor FX7 tX7_factor V (fun st J K => st = r.toList ∧ J = I2 ∧ K = L2) → V 0 (lv_args 0 av) [] I L) : KX7_factor l av I L r I2 L2 := cr_of (y := yX7_factor) (cc := cX7_factor) (nL := 4) (ret := (some .int)) (rm := rmX7_factor) (own := RX7) (F := FX7) (P := tX7_factor) (by decide +kernel) rfl kdC_ok fokX7 okX7_factor (by decide +kernel) (by decide +kernel) hlen hz body
abbrev rmX7_annihilator : Room := { frames := 5, cells := 0, slots := 0, locals := 120 }
abbrev KX7_annihilator (l : Launch) (av : List Value) (I : IM) (L : LM) (r : Option Value) (I2 : IM) (L2 : LM) : Prop := CR l kdC 181 yX7_annihilator cX7_annihilator 2 (some .int) rmX7_annihilator av I L r I2 L2
theorem wX7_annihilator (l : Launch) {av : List Value} {I : IM} {L : LM} {r : Option Value} {I2 : IM} {L2 : LM} (hlen : Nat.ble (lg_sl av).length 2 = true) (hz : (some .int) = some FieldType.boolean → ∀ x, r = some (.int x) → x = 0 ∨ x = 1) (body : ∀ V : Nat → LV → List Value → IM → LM → Prop, Ru l kdC 181 RX7 cX7_annihilator rmX7_annihilator FX7 tX7_annihilator V (fun st J K => st = r.toList ∧ J = I2 ∧ K = L2) → V 0 (lv_args 0 av) [] I L) : KX7_annihilator l av I L r I2 L2 := cr_of (y := yX7_annihilator) (cc := cX7_annihilator) (nL := 2) (ret := (some .int)) (rm := rmX7_annihilator) (own := RX7) (F := FX7) (P := tX7_annihilator) (by decide +kernel) rfl kdC_ok fokX7 okX7_annihilator (by decide +kernel) (by decide +kernel) hlen hz body
abbrev rmX7_basis : Room := { frames := 5, cells := 0, slots := 0, locals := 120 }
abbrev KX7_basis (l : Launch) (av : List Value) (I : IM) (L : LM) (r : Option Value) (I2 : IM) (L2 : LM) : Prop := CR l kdC 181 yX7_basis cX7_basis 5 (some .int) rmX7_basis av I L r I2 L2
theorem wX7_basis (l : Launch) {av : List Value} {I : IM} {L : LM} {r : Option Value} {I2 : IM} {L2 : LM} (hlen : Nat.ble (lg_sl av).length 5 = true) (hz : (some .int) = some FieldType.boolean → ∀ x, r = some (.int x) → x = 0 ∨ x = 1) (body : ∀ V : Nat → LV → List Value → IM → LM → Prop, Ru l kdC 181 RX7 cX7_basis rmX7_basis FX7 tX7_basis V (fun st J K => st = r.toList ∧ J = I2 ∧ K = L2) → V 0 (lv_args 0 av) [] I L) : KX7_basis l av I L r I2 L2 := cr_of (y := yX7_basis) (cc := cX7_basis) (nL := 5) (ret := (some .int)) (rm := rmX7_basis) (own := RX7) (F := FX7) (P := tX7_basis) (by decide +kernel) rfl kdC_ok fokX7 okX7_basis (by decide +kernel) (by decide +kernel) hlen hz body
abbrev rmX7_refused : Room := { frames := 5, cells := 0, slots := 0, locals := 123 }
abbrev KX7_refused (l : Launch) (av : List Value) (I : IM) (L : LM) (r : Option Value) (I2 : IM) (L2 : LM) : Prop := CR l kdC 181 yX7_refused cX7_refused 4 (some .int) rmX7_refused av I L r I2 L2
theorem wX7_refused (l : Launch) {av : List Value} {I : IM} {L : LM} {r : Option Value} {I2 : IM} {L2 : LM} (hlen : Nat.ble (lg_sl av).length 4 = true) (hz : (some .int) = some FieldType.boolean → ∀ x, r = some (.int x) → x = 0 ∨ x = 1) (body : ∀ V : Nat → LV → List Value → IM → LM → Prop, Ru l kdC 181 RX7 cX7_refused rmX7_refused FX7 tX7_refused V (fun st J K => st = r.toList ∧ J = I2 ∧ K = L2) → V 0 (lv_args 0 av) [] I L) : KX7_refused l av I L r I2 L2 := cr_of (y := yX7_refused) (cc := cX7_refused) (nL := 4) (ret := (some .int)) (rm := rmX7_refused) (own := RX7) (F := FX7) (P := tX7_refused) (by decide +kernel) rfl kdC_ok fokX7 okX7_refused (by decide +kernel) (by decide +kernel) hlen hz body
abbrev rmX7_compare : Room := { frames := 3, cells := 0, slots := 0, locals := 69 }
abbrev KX7_compare (l : Launch) (av : List Value) (I : IM) (L : LM) (r : Option Value) (I2 : IM) (L2 : LM) : Prop := CR l kdC 181 yX7_compare cX7_compare 5 (some .int) rmX7_compare av I L r I2 L2
theorem wX7_compare (l : Launch) {av : List Value} {I : IM} {L : LM} {r : Option Value} {I2 : IM} {L2 : LM} (hlen : Nat.ble (lg_sl av).length 5 = true) (hz : (some .int) = some FieldType.boolean → ∀ x, r = some (.int x) → x = 0 ∨ x = 1) (body : ∀ V : Nat → LV → List Value → IM → LM → Prop, Ru l kdC 181 RX7 cX7_compare rmX7_compare FX7 tX7_compare V (fun st J K => st = r.toList ∧ J = I2 ∧ K = L2) → V 0 (lv_args 0 av) [] I L) : KX7_compare l av I L r I2 L2 := cr_of (y := yX7_compare) (cc := cX7_compare) (nL := 5) (ret := (some .int)) (rm := rmX7_compare) (own := RX7) (F := FX7) (P := tX7_compare) (by decide +kernel) rfl kdC_ok fokX7 okX7_compare (by decide +kernel) (by decide +kernel) hlen hz body
abbrev rmX7_signOrZero : Room := { frames := 0, cells := 0, slots := 0, locals := 0 }
abbrev KX7_signOrZero (l : Launch) (av : List Value) (I : IM) (L : LM) (r : Option Value) (I2 : IM) (L2 : LM) : Prop := CR l kdC 181 yX7_signOrZero cX7_signOrZero 2 (some .int) rmX7_signOrZero av I L r I2 L2
theorem wX7_signOrZero (l : Launch) {av : List Value} {I : IM} {L : LM} {r : Option Value} {I2 : IM} {L2 : LM} (hlen : Nat.ble (lg_sl av).length 2 = true) (hz : (some .int) = some FieldType.boolean → ∀ x, r = some (.int x) → x = 0 ∨ x = 1) (body : ∀ V : Nat → LV → List Value → IM → LM → Prop, Ru l kdC 181 RX7 cX7_signOrZero rmX7_signOrZero FX7 tX7_signOrZero V (fun st J K => st = r.toList ∧ J = I2 ∧ K = L2) → V 0 (lv_args 0 av) [] I L) : KX7_signOrZero l av I L r I2 L2 := cr_of (y := yX7_signOrZero) (cc := cX7_signOrZero) (nL := 2) (ret := (some .int)) (rm := rmX7_signOrZero) (own := RX7) (F := FX7) (P := tX7_signOrZero) (by decide +kernel) rfl kdC_ok fokX7 okX7_signOrZero (by decide +kernel) (by decide +kernel) hlen hz body
abbrev rmX7_countTaken : Room := { frames := 0, cells := 0, slots := 0, locals := 0 }
abbrev KX7_countTaken (l : Launch) (av : List Value) (I : IM) (L : LM) (r : Option Value) (I2 : IM) (L2 : LM) : Prop := CR l kdC 181 yX7_countTaken cX7_countTaken 3 (some .int) rmX7_countTaken av I L r I2 L2
theorem wX7_countTaken (l : Launch) {av : List Value} {I : IM} {L : LM} {r : Option Value} {I2 : IM} {L2 : LM} (hlen : Nat.ble (lg_sl av).length 3 = true) (hz : (some .int) = some FieldType.boolean → ∀ x, r = some (.int x) → x = 0 ∨ x = 1) (body : ∀ V : Nat → LV → List Value → IM → LM → Prop, Ru l kdC 181 RX7 cX7_countTaken rmX7_countTaken FX7 tX7_countTaken V (fun st J K => st = r.toList ∧ J = I2 ∧ K = L2) → V 0 (lv_args 0 av) [] I L) : KX7_countTaken l av I L r I2 L2 := cr_of (y := yX7_countTaken) (cc := cX7_countTaken) (nL := 3) (ret := (some .int)) (rm := rmX7_countTaken) (own := RX7) (F := FX7) (P := tX7_countTaken) (by decide +kernel) rfl kdC_ok fokX7 okX7_countTaken (by decide +kernel) (by decide +kernel) hlen hz body
abbrev rmX7_count : Room := { frames := 5, cells := 0, slots := 0, locals := 119 }
abbrev KX7_count (l : Launch) (av : List Value) (I : IM) (L : LM) (r : Option Value) (I2 : IM) (L2 : LM) : Prop := CR l kdC 181 yX7_count cX7_count 2 (some .int) rmX7_count av I L r I2 L2
theorem wX7_count (l : Launch) {av : List Value} {I : IM} {L : LM} {r : Option Value} {I2 : IM} {L2 : LM} (hlen : Nat.ble (lg_sl av).length 2 = true) (hz : (some .int) = some FieldType.boolean → ∀ x, r = some (.int x) → x = 0 ∨ x = 1) (body : ∀ V : Nat → LV → List Value → IM → LM → Prop, Ru l kdC 181 RX7 cX7_count rmX7_count FX7 tX7_count V (fun st J K => st = r.toList ∧ J = I2 ∧ K = L2) → V 0 (lv_args 0 av) [] I L) : KX7_count l av I L r I2 L2 := cr_of (y := yX7_count) (cc := cX7_count) (nL := 2) (ret := (some .int)) (rm := rmX7_count) (own := RX7) (F := FX7) (P := tX7_count) (by decide +kernel) rfl kdC_ok fokX7 okX7_count (by decide +kernel) (by decide +kernel) hlen hz body
abbrev rmX7_matrixAt : Room := { frames := 1, cells := 0, slots := 0, locals := 21 }
abbrev KX7_matrixAt (l : Launch) (av : List Value) (I : IM) (L : LM) (r : Option Value) (I2 : IM) (L2 : LM) : Prop := CR l kdC 181 yX7_matrixAt cX7_matrixAt 3 (some .int) rmX7_matrixAt av I L r I2 L2
theorem wX7_matrixAt (l : Launch) {av : List Value} {I : IM} {L : LM} {r : Option Value} {I2 : IM} {L2 : LM} (hlen : Nat.ble (lg_sl av).length 3 = true) (hz : (some .int) = some FieldType.boolean → ∀ x, r = some (.int x) → x = 0 ∨ x = 1) (body : ∀ V : Nat → LV → List Value → IM → LM → Prop, Ru l kdC 181 RX7 cX7_matrixAt rmX7_matrixAt FX7 tX7_matrixAt V (fun st J K => st = r.toList ∧ J = I2 ∧ K = L2) → V 0 (lv_args 0 av) [] I L) : KX7_matrixAt l av I L r I2 L2 := cr_of (y := yX7_matrixAt) (cc := cX7_matrixAt) (nL := 3) (ret := (some .int)) (rm := rmX7_matrixAt) (own := RX7) (F := FX7) (P := tX7_matrixAt) (by decide +kernel) rfl kdC_ok fokX7 okX7_matrixAt (by decide +kernel) (by decide +kernel) hlen hz body
abbrev rmX7_density : Room := { frames := 3, cells := 0, slots := 0, locals := 68 }
abbrev KX7_density (l : Launch) (av : List Value) (I : IM) (L : LM) (r : Option Value) (I2 : IM) (L2 : LM) : Prop := CR l kdC 181 yX7_density cX7_density 2 (some .float) rmX7_density av I L r I2 L2
theorem wX7_density (l : Launch) {av : List Value} {I : IM} {L : LM} {r : Option Value} {I2 : IM} {L2 : LM} (hlen : Nat.ble (lg_sl av).length 2 = true) (hz : (some .float) = some FieldType.boolean → ∀ x, r = some (.int x) → x = 0 ∨ x = 1) (body : ∀ V : Nat → LV → List Value → IM → LM → Prop, Ru l kdC 181 RX7 cX7_density rmX7_density FX7 tX7_density V (fun st J K => st = r.toList ∧ J = I2 ∧ K = L2) → V 0 (lv_args 0 av) [] I L) : KX7_density l av I L r I2 L2 := cr_of (y := yX7_density) (cc := cX7_density) (nL := 2) (ret := (some .float)) (rm := rmX7_density) (own := RX7) (F := FX7) (P := tX7_density) (by decide +kernel) rfl kdC_ok fokX7 okX7_density (by decide +kernel) (by decide +kernel) hlen hz body
abbrev rmX7_share : Room := { frames := 2, cells := 0, slots := 0, locals := 48 }
abbrev KX7_share (l : Launch) (av : List Value) (I : IM) (L : LM) (r : Option Value) (I2 : IM) (L2 : LM) : Prop := CR l kdC 181 yX7_share cX7_share 3 (some .double) rmX7_share av I L r I2 L2
theorem wX7_share (l : Launch) {av : List Value} {I : IM} {L : LM} {r : Option Value} {I2 : IM} {L2 : LM} (hlen : Nat.ble (lg_sl av).length 3 = true) (hz : (some .double) = some FieldType.boolean → ∀ x, r = some (.int x) → x = 0 ∨ x = 1) (body : ∀ V : Nat → LV → List Value → IM → LM → Prop, Ru l kdC 181 RX7 cX7_share rmX7_share FX7 tX7_share V (fun st J K => st = r.toList ∧ J = I2 ∧ K = L2) → V 0 (lv_args 0 av) [] I L) : KX7_share l av I L r I2 L2 := cr_of (y := yX7_share) (cc := cX7_share) (nL := 3) (ret := (some .double)) (rm := rmX7_share) (own := RX7) (F := FX7) (P := tX7_share) (by decide +kernel) rfl kdC_ok fokX7 okX7_share (by decide +kernel) (by decide +kernel) hlen hz body
abbrev rmX7_hashCounts : Room := { frames := 6, cells := 0, slots := 0, locals := 140 }
abbrev KX7_hashCounts (l : Launch) (av : List Value) (I : IM) (L : LM) (r : Option Value) (I2 : IM) (L2 : LM) : Prop := CR l kdC 181 yX7_hashCounts cX7_hashCounts 6 (some .long) rmX7_hashCounts av I L r I2 L2
theorem wX7_hashCounts (l : Launch) {av : List Value} {I : IM} {L : LM} {r : Option Value} {I2 : IM} {L2 : LM} (hlen : Nat.ble (lg_sl av).length 6 = true) (hz : (some .long) = some FieldType.boolean → ∀ x, r = some (.int x) → x = 0 ∨ x = 1) (body : ∀ V : Nat → LV → List Value → IM → LM → Prop, Ru l kdC 181 RX7 cX7_hashCounts rmX7_hashCounts FX7 tX7_hashCounts V (fun st J K => st = r.toList ∧ J = I2 ∧ K = L2) → V 0 (lv_args 0 av) [] I L) : KX7_hashCounts l av I L r I2 L2 := cr_of (y := yX7_hashCounts) (cc := cX7_hashCounts) (nL := 6) (ret := (some .long)) (rm := rmX7_hashCounts) (own := RX7) (F := FX7) (P := tX7_hashCounts) (by decide +kernel) rfl kdC_ok fokX7 okX7_hashCounts (by decide +kernel) (by decide +kernel) hlen hz body
abbrev rmX7_hashMatrix : Room := { frames := 0, cells := 0, slots := 0, locals := 0 }
abbrev KX7_hashMatrix (l : Launch) (av : List Value) (I : IM) (L : LM) (r : Option Value) (I2 : IM) (L2 : LM) : Prop := CR l kdC 181 yX7_hashMatrix cX7_hashMatrix 7 (some .long) rmX7_hashMatrix av I L r I2 L2
theorem wX7_hashMatrix (l : Launch) {av : List Value} {I : IM} {L : LM} {r : Option Value} {I2 : IM} {L2 : LM} (hlen : Nat.ble (lg_sl av).length 7 = true) (hz : (some .long) = some FieldType.boolean → ∀ x, r = some (.int x) → x = 0 ∨ x = 1) (body : ∀ V : Nat → LV → List Value → IM → LM → Prop, Ru l kdC 181 RX7 cX7_hashMatrix rmX7_hashMatrix FX7 tX7_hashMatrix V (fun st J K => st = r.toList ∧ J = I2 ∧ K = L2) → V 0 (lv_args 0 av) [] I L) : KX7_hashMatrix l av I L r I2 L2 := cr_of (y := yX7_hashMatrix) (cc := cX7_hashMatrix) (nL := 7) (ret := (some .long)) (rm := rmX7_hashMatrix) (own := RX7) (F := FX7) (P := tX7_hashMatrix) (by decide +kernel) rfl kdC_ok fokX7 okX7_hashMatrix (by decide +kernel) (by decide +kernel) hlen hz body
abbrev rmX7_hashAnnihilator : Room := { frames := 5, cells := 0, slots := 0, locals := 120 }
abbrev KX7_hashAnnihilator (l : Launch) (av : List Value) (I : IM) (L : LM) (r : Option Value) (I2 : IM) (L2 : LM) : Prop := CR l kdC 181 yX7_hashAnnihilator cX7_hashAnnihilator 9 (some .long) rmX7_hashAnnihilator av I L r I2 L2
theorem wX7_hashAnnihilator (l : Launch) {av : List Value} {I : IM} {L : LM} {r : Option Value} {I2 : IM} {L2 : LM} (hlen : Nat.ble (lg_sl av).length 9 = true) (hz : (some .long) = some FieldType.boolean → ∀ x, r = some (.int x) → x = 0 ∨ x = 1) (body : ∀ V : Nat → LV → List Value → IM → LM → Prop, Ru l kdC 181 RX7 cX7_hashAnnihilator rmX7_hashAnnihilator FX7 tX7_hashAnnihilator V (fun st J K => st = r.toList ∧ J = I2 ∧ K = L2) → V 0 (lv_args 0 av) [] I L) : KX7_hashAnnihilator l av I L r I2 L2 := cr_of (y := yX7_hashAnnihilator) (cc := cX7_hashAnnihilator) (nL := 9) (ret := (some .long)) (rm := rmX7_hashAnnihilator) (own := RX7) (F := FX7) (P := tX7_hashAnnihilator) (by decide +kernel) rfl kdC_ok fokX7 okX7_hashAnnihilator (by decide +kernel) (by decide +kernel) hlen hz body
abbrev rmX7_hashFactors : Room := { frames := 4, cells := 0, slots := 0, locals := 93 }
abbrev KX7_hashFactors (l : Launch) (av : List Value) (I : IM) (L : LM) (r : Option Value) (I2 : IM) (L2 : LM) : Prop := CR l kdC 181 yX7_hashFactors cX7_hashFactors 9 (some .long) rmX7_hashFactors av I L r I2 L2
theorem wX7_hashFactors (l : Launch) {av : List Value} {I : IM} {L : LM} {r : Option Value} {I2 : IM} {L2 : LM} (hlen : Nat.ble (lg_sl av).length 9 = true) (hz : (some .long) = some FieldType.boolean → ∀ x, r = some (.int x) → x = 0 ∨ x = 1) (body : ∀ V : Nat → LV → List Value → IM → LM → Prop, Ru l kdC 181 RX7 cX7_hashFactors rmX7_hashFactors FX7 tX7_hashFactors V (fun st J K => st = r.toList ∧ J = I2 ∧ K = L2) → V 0 (lv_args 0 av) [] I L) : KX7_hashFactors l av I L r I2 L2 := cr_of (y := yX7_hashFactors) (cc := cX7_hashFactors) (nL := 9) (ret := (some .long)) (rm := rmX7_hashFactors) (own := RX7) (F := FX7) (P := tX7_hashFactors) (by decide +kernel) rfl kdC_ok fokX7 okX7_hashFactors (by decide +kernel) (by decide +kernel) hlen hz body
abbrev rmX7_hashSlot : Room := { frames := 6, cells := 0, slots := 0, locals := 148 }
abbrev KX7_hashSlot (l : Launch) (av : List Value) (I : IM) (L : LM) (r : Option Value) (I2 : IM) (L2 : LM) : Prop := CR l kdC 181 yX7_hashSlot cX7_hashSlot 8 (some .long) rmX7_hashSlot av I L r I2 L2
theorem wX7_hashSlot (l : Launch) {av : List Value} {I : IM} {L : LM} {r : Option Value} {I2 : IM} {L2 : LM} (hlen : Nat.ble (lg_sl av).length 8 = true) (hz : (some .long) = some FieldType.boolean → ∀ x, r = some (.int x) → x = 0 ∨ x = 1) (body : ∀ V : Nat → LV → List Value → IM → LM → Prop, Ru l kdC 181 RX7 cX7_hashSlot rmX7_hashSlot FX7 tX7_hashSlot V (fun st J K => st = r.toList ∧ J = I2 ∧ K = L2) → V 0 (lv_args 0 av) [] I L) : KX7_hashSlot l av I L r I2 L2 := cr_of (y := yX7_hashSlot) (cc := cX7_hashSlot) (nL := 8) (ret := (some .long)) (rm := rmX7_hashSlot) (own := RX7) (F := FX7) (P := tX7_hashSlot) (by decide +kernel) rfl kdC_ok fokX7 okX7_hashSlot (by decide +kernel) (by decide +kernel) hlen hz body
abbrev rmX7_digest : Room := { frames := 7, cells := 0, slots := 0, locals := 175 }
abbrev KX7_digest (l : Launch) (av : List Value) (I : IM) (L : LM) (r : Option Value) (I2 : IM) (L2 : LM) : Prop := CR l kdC 181 yX7_digest cX7_digest 4 (some .long) rmX7_digest av I L r I2 L2
theorem wX7_digest (l : Launch) {av : List Value} {I : IM} {L : LM} {r : Option Value} {I2 : IM} {L2 : LM} (hlen : Nat.ble (lg_sl av).length 4 = true) (hz : (some .long) = some FieldType.boolean → ∀ x, r = some (.int x) → x = 0 ∨ x = 1) (body : ∀ V : Nat → LV → List Value → IM → LM → Prop, Ru l kdC 181 RX7 cX7_digest rmX7_digest FX7 tX7_digest V (fun st J K => st = r.toList ∧ J = I2 ∧ K = L2) → V 0 (lv_args 0 av) [] I L) : KX7_digest l av I L r I2 L2 := cr_of (y := yX7_digest) (cc := cX7_digest) (nL := 4) (ret := (some .long)) (rm := rmX7_digest) (own := RX7) (F := FX7) (P := tX7_digest) (by decide +kernel) rfl kdC_ok fokX7 okX7_digest (by decide +kernel) (by decide +kernel) hlen hz body
abbrev rmX8_layPlain : Room := { frames := 0, cells := 0, slots := 0, locals := 0 }
abbrev KX8_layPlain (l : Launch) (av : List Value) (I : IM) (L : LM) (r : Option Value) (I2 : IM) (L2 : LM) : Prop := CR l kdR 12 yX8_layPlain cX8_layPlain 2 none rmX8_layPlain av I L r I2 L2
theorem wX8_layPlain (l : Launch) {av : List Value} {I : IM} {L : LM} {r : Option Value} {I2 : IM} {L2 : LM} (hlen : Nat.ble (lg_sl av).length 2 = true) (hz : none = some FieldType.boolean → ∀ x, r = some (.int x) → x = 0 ∨ x = 1) (body : ∀ V : Nat → LV → List Value → IM → LM → Prop, Ru l kdR 12 RX8 cX8_layPlain rmX8_layPlain FX8 tX8_layPlain V (fun st J K => st = r.toList ∧ J = I2 ∧ K = L2) → V 0 (lv_args 0 av) [] I L) : KX8_layPlain l av I L r I2 L2 := cr_of (y := yX8_layPlain) (cc := cX8_layPlain) (nL := 2) (ret := none) (rm := rmX8_layPlain) (own := RX8) (F := FX8) (P := tX8_layPlain) (by decide +kernel) rfl kdR_ok fokX8 okX8_layPlain (by decide +kernel) (by decide +kernel) hlen hz body
abbrev rmX8_thrown : Room := { frames := 0, cells := 0, slots := 0, locals := 0 }
abbrev KX8_thrown (l : Launch) (av : List Value) (I : IM) (L : LM) (r : Option Value) (I2 : IM) (L2 : LM) : Prop := CR l kdR 12 yX8_thrown cX8_thrown 1 (some .int) rmX8_thrown av I L r I2 L2
theorem wX8_thrown (l : Launch) {av : List Value} {I : IM} {L : LM} {r : Option Value} {I2 : IM} {L2 : LM} (hlen : Nat.ble (lg_sl av).length 1 = true) (hz : (some .int) = some FieldType.boolean → ∀ x, r = some (.int x) → x = 0 ∨ x = 1) (body : ∀ V : Nat → LV → List Value → IM → LM → Prop, Ru l kdR 12 RX8 cX8_thrown rmX8_thrown FX8 tX8_thrown V (fun st J K => st = r.toList ∧ J = I2 ∧ K = L2) → V 0 (lv_args 0 av) [] I L) : KX8_thrown l av I L r I2 L2 := cr_of (y := yX8_thrown) (cc := cX8_thrown) (nL := 1) (ret := (some .int)) (rm := rmX8_thrown) (own := RX8) (F := FX8) (P := tX8_thrown) (by decide +kernel) rfl kdR_ok fokX8 okX8_thrown (by decide +kernel) (by decide +kernel) hlen hz body
abbrev rmX8_fails : Room := { frames := 0, cells := 0, slots := 0, locals := 0 }
abbrev KX8_fails (l : Launch) (av : List Value) (I : IM) (L : LM) (r : Option Value) (I2 : IM) (L2 : LM) : Prop := CR l kdR 12 yX8_fails cX8_fails 2 (some .int) rmX8_fails av I L r I2 L2
theorem wX8_fails (l : Launch) {av : List Value} {I : IM} {L : LM} {r : Option Value} {I2 : IM} {L2 : LM} (hlen : Nat.ble (lg_sl av).length 2 = true) (hz : (some .int) = some FieldType.boolean → ∀ x, r = some (.int x) → x = 0 ∨ x = 1) (body : ∀ V : Nat → LV → List Value → IM → LM → Prop, Ru l kdR 12 RX8 cX8_fails rmX8_fails FX8 tX8_fails V (fun st J K => st = r.toList ∧ J = I2 ∧ K = L2) → V 0 (lv_args 0 av) [] I L) : KX8_fails l av I L r I2 L2 := cr_of (y := yX8_fails) (cc := cX8_fails) (nL := 2) (ret := (some .int)) (rm := rmX8_fails) (own := RX8) (F := FX8) (P := tX8_fails) (by decide +kernel) rfl kdR_ok fokX8 okX8_fails (by decide +kernel) (by decide +kernel) hlen hz body
abbrev rmX8_in : Room := { frames := 0, cells := 0, slots := 0, locals := 0 }
abbrev KX8_in (l : Launch) (av : List Value) (I : IM) (L : LM) (r : Option Value) (I2 : IM) (L2 : LM) : Prop := CR l kdR 12 yX8_in cX8_in 3 (some .boolean) rmX8_in av I L r I2 L2
theorem wX8_in (l : Launch) {av : List Value} {I : IM} {L : LM} {r : Option Value} {I2 : IM} {L2 : LM} (hlen : Nat.ble (lg_sl av).length 3 = true) (hz : (some .boolean) = some FieldType.boolean → ∀ x, r = some (.int x) → x = 0 ∨ x = 1) (body : ∀ V : Nat → LV → List Value → IM → LM → Prop, Ru l kdR 12 RX8 cX8_in rmX8_in FX8 tX8_in V (fun st J K => st = r.toList ∧ J = I2 ∧ K = L2) → V 0 (lv_args 0 av) [] I L) : KX8_in l av I L r I2 L2 := cr_of (y := yX8_in) (cc := cX8_in) (nL := 3) (ret := (some .boolean)) (rm := rmX8_in) (own := RX8) (F := FX8) (P := tX8_in) (by decide +kernel) rfl kdR_ok fokX8 okX8_in (by decide +kernel) (by decide +kernel) hlen hz body
abbrev rmX8_save : Room := { frames := 0, cells := 0, slots := 0, locals := 0 }
abbrev KX8_save (l : Launch) (av : List Value) (I : IM) (L : LM) (r : Option Value) (I2 : IM) (L2 : LM) : Prop := CR l kdR 12 yX8_save cX8_save 2 none rmX8_save av I L r I2 L2
theorem wX8_save (l : Launch) {av : List Value} {I : IM} {L : LM} {r : Option Value} {I2 : IM} {L2 : LM} (hlen : Nat.ble (lg_sl av).length 2 = true) (hz : none = some FieldType.boolean → ∀ x, r = some (.int x) → x = 0 ∨ x = 1) (body : ∀ V : Nat → LV → List Value → IM → LM → Prop, Ru l kdR 12 RX8 cX8_save rmX8_save FX8 tX8_save V (fun st J K => st = r.toList ∧ J = I2 ∧ K = L2) → V 0 (lv_args 0 av) [] I L) : KX8_save l av I L r I2 L2 := cr_of (y := yX8_save) (cc := cX8_save) (nL := 2) (ret := none) (rm := rmX8_save) (own := RX8) (F := FX8) (P := tX8_save) (by decide +kernel) rfl kdR_ok fokX8 okX8_save (by decide +kernel) (by decide +kernel) hlen hz body
abbrev rmX8_blades : Room := { frames := 0, cells := 0, slots := 0, locals := 0 }
abbrev KX8_blades (l : Launch) (av : List Value) (I : IM) (L : LM) (r : Option Value) (I2 : IM) (L2 : LM) : Prop := CR l kdR 12 yX8_blades cX8_blades 1 (some .int) rmX8_blades av I L r I2 L2
theorem wX8_blades (l : Launch) {av : List Value} {I : IM} {L : LM} {r : Option Value} {I2 : IM} {L2 : LM} (hlen : Nat.ble (lg_sl av).length 1 = true) (hz : (some .int) = some FieldType.boolean → ∀ x, r = some (.int x) → x = 0 ∨ x = 1) (body : ∀ V : Nat → LV → List Value → IM → LM → Prop, Ru l kdR 12 RX8 cX8_blades rmX8_blades FX8 tX8_blades V (fun st J K => st = r.toList ∧ J = I2 ∧ K = L2) → V 0 (lv_args 0 av) [] I L) : KX8_blades l av I L r I2 L2 := cr_of (y := yX8_blades) (cc := cX8_blades) (nL := 1) (ret := (some .int)) (rm := rmX8_blades) (own := RX8) (F := FX8) (P := tX8_blades) (by decide +kernel) rfl kdR_ok fokX8 okX8_blades (by decide +kernel) (by decide +kernel) hlen hz body
abbrev rmX8_isSlot : Room := { frames := 1, cells := 0, slots := 0, locals := 22 }
abbrev KX8_isSlot (l : Launch) (av : List Value) (I : IM) (L : LM) (r : Option Value) (I2 : IM) (L2 : LM) : Prop := CR l kdR 12 yX8_isSlot cX8_isSlot 1 (some .boolean) rmX8_isSlot av I L r I2 L2
theorem wX8_isSlot (l : Launch) {av : List Value} {I : IM} {L : LM} {r : Option Value} {I2 : IM} {L2 : LM} (hlen : Nat.ble (lg_sl av).length 1 = true) (hz : (some .boolean) = some FieldType.boolean → ∀ x, r = some (.int x) → x = 0 ∨ x = 1) (body : ∀ V : Nat → LV → List Value → IM → LM → Prop, Ru l kdR 12 RX8 cX8_isSlot rmX8_isSlot FX8 tX8_isSlot V (fun st J K => st = r.toList ∧ J = I2 ∧ K = L2) → V 0 (lv_args 0 av) [] I L) : KX8_isSlot l av I L r I2 L2 := cr_of (y := yX8_isSlot) (cc := cX8_isSlot) (nL := 1) (ret := (some .boolean)) (rm := rmX8_isSlot) (own := RX8) (F := FX8) (P := tX8_isSlot) (by decide +kernel) rfl kdR_ok fokX8 okX8_isSlot (by decide +kernel) (by decide +kernel) hlen hz body
abbrev rmX8_isDirection : Room := { frames := 1, cells := 0, slots := 0, locals := 22 }
abbrev KX8_isDirection (l : Launch) (av : List Value) (I : IM) (L : LM) (r : Option Value) (I2 : IM) (L2 : LM) : Prop := CR l kdR 12 yX8_isDirection cX8_isDirection 2 (some .boolean) rmX8_isDirection av I L r I2 L2
theorem wX8_isDirection (l : Launch) {av : List Value} {I : IM} {L : LM} {r : Option Value} {I2 : IM} {L2 : LM} (hlen : Nat.ble (lg_sl av).length 2 = true) (hz : (some .boolean) = some FieldType.boolean → ∀ x, r = some (.int x) → x = 0 ∨ x = 1) (body : ∀ V : Nat → LV → List Value → IM → LM → Prop, Ru l kdR 12 RX8 cX8_isDirection rmX8_isDirection FX8 tX8_isDirection V (fun st J K => st = r.toList ∧ J = I2 ∧ K = L2) → V 0 (lv_args 0 av) [] I L) : KX8_isDirection l av I L r I2 L2 := cr_of (y := yX8_isDirection) (cc := cX8_isDirection) (nL := 2) (ret := (some .boolean)) (rm := rmX8_isDirection) (own := RX8) (F := FX8) (P := tX8_isDirection) (by decide +kernel) rfl kdR_ok fokX8 okX8_isDirection (by decide +kernel) (by decide +kernel) hlen hz body
abbrev rmX8_isBlade : Room := { frames := 1, cells := 0, slots := 0, locals := 22 }
abbrev KX8_isBlade (l : Launch) (av : List Value) (I : IM) (L : LM) (r : Option Value) (I2 : IM) (L2 : LM) : Prop := CR l kdR 12 yX8_isBlade cX8_isBlade 2 (some .boolean) rmX8_isBlade av I L r I2 L2
theorem wX8_isBlade (l : Launch) {av : List Value} {I : IM} {L : LM} {r : Option Value} {I2 : IM} {L2 : LM} (hlen : Nat.ble (lg_sl av).length 2 = true) (hz : (some .boolean) = some FieldType.boolean → ∀ x, r = some (.int x) → x = 0 ∨ x = 1) (body : ∀ V : Nat → LV → List Value → IM → LM → Prop, Ru l kdR 12 RX8 cX8_isBlade rmX8_isBlade FX8 tX8_isBlade V (fun st J K => st = r.toList ∧ J = I2 ∧ K = L2) → V 0 (lv_args 0 av) [] I L) : KX8_isBlade l av I L r I2 L2 := cr_of (y := yX8_isBlade) (cc := cX8_isBlade) (nL := 2) (ret := (some .boolean)) (rm := rmX8_isBlade) (own := RX8) (F := FX8) (P := tX8_isBlade) (by decide +kernel) rfl kdR_ok fokX8 okX8_isBlade (by decide +kernel) (by decide +kernel) hlen hz body
abbrev rmX8_at : Room := { frames := 0, cells := 0, slots := 0, locals := 0 }
abbrev KX8_at (l : Launch) (av : List Value) (I : IM) (L : LM) (r : Option Value) (I2 : IM) (L2 : LM) : Prop := CR l kdR 12 yX8_at cX8_at 3 (some .int) rmX8_at av I L r I2 L2
theorem wX8_at (l : Launch) {av : List Value} {I : IM} {L : LM} {r : Option Value} {I2 : IM} {L2 : LM} (hlen : Nat.ble (lg_sl av).length 3 = true) (hz : (some .int) = some FieldType.boolean → ∀ x, r = some (.int x) → x = 0 ∨ x = 1) (body : ∀ V : Nat → LV → List Value → IM → LM → Prop, Ru l kdR 12 RX8 cX8_at rmX8_at FX8 tX8_at V (fun st J K => st = r.toList ∧ J = I2 ∧ K = L2) → V 0 (lv_args 0 av) [] I L) : KX8_at l av I L r I2 L2 := cr_of (y := yX8_at) (cc := cX8_at) (nL := 3) (ret := (some .int)) (rm := rmX8_at) (own := RX8) (F := FX8) (P := tX8_at) (by decide +kernel) rfl kdR_ok fokX8 okX8_at (by decide +kernel) (by decide +kernel) hlen hz body
abbrev rmX8_grade : Room := { frames := 0, cells := 0, slots := 0, locals := 0 }
abbrev KX8_grade (l : Launch) (av : List Value) (I : IM) (L : LM) (r : Option Value) (I2 : IM) (L2 : LM) : Prop := CR l kdR 12 yX8_grade cX8_grade 3 (some .int) rmX8_grade av I L r I2 L2
theorem wX8_grade (l : Launch) {av : List Value} {I : IM} {L : LM} {r : Option Value} {I2 : IM} {L2 : LM} (hlen : Nat.ble (lg_sl av).length 3 = true) (hz : (some .int) = some FieldType.boolean → ∀ x, r = some (.int x) → x = 0 ∨ x = 1) (body : ∀ V : Nat → LV → List Value → IM → LM → Prop, Ru l kdR 12 RX8 cX8_grade rmX8_grade FX8 tX8_grade V (fun st J K => st = r.toList ∧ J = I2 ∧ K = L2) → V 0 (lv_args 0 av) [] I L) : KX8_grade l av I L r I2 L2 := cr_of (y := yX8_grade) (cc := cX8_grade) (nL := 3) (ret := (some .int)) (rm := rmX8_grade) (own := RX8) (F := FX8) (P := tX8_grade) (by decide +kernel) rfl kdR_ok fokX8 okX8_grade (by decide +kernel) (by decide +kernel) hlen hz body
abbrev rmX8_turns : Room := { frames := 1, cells := 0, slots := 0, locals := 22 }
abbrev KX8_turns (l : Launch) (av : List Value) (I : IM) (L : LM) (r : Option Value) (I2 : IM) (L2 : LM) : Prop := CR l kdR 12 yX8_turns cX8_turns 4 (some .int) rmX8_turns av I L r I2 L2
theorem wX8_turns (l : Launch) {av : List Value} {I : IM} {L : LM} {r : Option Value} {I2 : IM} {L2 : LM} (hlen : Nat.ble (lg_sl av).length 4 = true) (hz : (some .int) = some FieldType.boolean → ∀ x, r = some (.int x) → x = 0 ∨ x = 1) (body : ∀ V : Nat → LV → List Value → IM → LM → Prop, Ru l kdR 12 RX8 cX8_turns rmX8_turns FX8 tX8_turns V (fun st J K => st = r.toList ∧ J = I2 ∧ K = L2) → V 0 (lv_args 0 av) [] I L) : KX8_turns l av I L r I2 L2 := cr_of (y := yX8_turns) (cc := cX8_turns) (nL := 4) (ret := (some .int)) (rm := rmX8_turns) (own := RX8) (F := FX8) (P := tX8_turns) (by decide +kernel) rfl kdR_ok fokX8 okX8_turns (by decide +kernel) (by decide +kernel) hlen hz body
abbrev rmX8_way : Room := { frames := 2, cells := 0, slots := 0, locals := 45 }
abbrev KX8_way (l : Launch) (av : List Value) (I : IM) (L : LM) (r : Option Value) (I2 : IM) (L2 : LM) : Prop := CR l kdR 12 yX8_way cX8_way 2 (some .int) rmX8_way av I L r I2 L2
theorem wX8_way (l : Launch) {av : List Value} {I : IM} {L : LM} {r : Option Value} {I2 : IM} {L2 : LM} (hlen : Nat.ble (lg_sl av).length 2 = true) (hz : (some .int) = some FieldType.boolean → ∀ x, r = some (.int x) → x = 0 ∨ x = 1) (body : ∀ V : Nat → LV → List Value → IM → LM → Prop, Ru l kdR 12 RX8 cX8_way rmX8_way FX8 tX8_way V (fun st J K => st = r.toList ∧ J = I2 ∧ K = L2) → V 0 (lv_args 0 av) [] I L) : KX8_way l av I L r I2 L2 := cr_of (y := yX8_way) (cc := cX8_way) (nL := 2) (ret := (some .int)) (rm := rmX8_way) (own := RX8) (F := FX8) (P := tX8_way) (by decide +kernel) rfl kdR_ok fokX8 okX8_way (by decide +kernel) (by decide +kernel) hlen hz body
abbrev rmX8_signOf : Room := { frames := 0, cells := 0, slots := 0, locals := 0 }
abbrev KX8_signOf (l : Launch) (av : List Value) (I : IM) (L : LM) (r : Option Value) (I2 : IM) (L2 : LM) : Prop := CR l kdR 12 yX8_signOf cX8_signOf 4 (some .int) rmX8_signOf av I L r I2 L2
theorem wX8_signOf (l : Launch) {av : List Value} {I : IM} {L : LM} {r : Option Value} {I2 : IM} {L2 : LM} (hlen : Nat.ble (lg_sl av).length 4 = true) (hz : (some .int) = some FieldType.boolean → ∀ x, r = some (.int x) → x = 0 ∨ x = 1) (body : ∀ V : Nat → LV → List Value → IM → LM → Prop, Ru l kdR 12 RX8 cX8_signOf rmX8_signOf FX8 tX8_signOf V (fun st J K => st = r.toList ∧ J = I2 ∧ K = L2) → V 0 (lv_args 0 av) [] I L) : KX8_signOf l av I L r I2 L2 := cr_of (y := yX8_signOf) (cc := cX8_signOf) (nL := 4) (ret := (some .int)) (rm := rmX8_signOf) (own := RX8) (F := FX8) (P := tX8_signOf) (by decide +kernel) rfl kdR_ok fokX8 okX8_signOf (by decide +kernel) (by decide +kernel) hlen hz body
abbrev rmX8_begin : Room := { frames := 1, cells := 0, slots := 0, locals := 22 }
abbrev KX8_begin (l : Launch) (av : List Value) (I : IM) (L : LM) (r : Option Value) (I2 : IM) (L2 : LM) : Prop := CR l kdR 12 yX8_begin cX8_begin 3 (some .int) rmX8_begin av I L r I2 L2
theorem wX8_begin (l : Launch) {av : List Value} {I : IM} {L : LM} {r : Option Value} {I2 : IM} {L2 : LM} (hlen : Nat.ble (lg_sl av).length 3 = true) (hz : (some .int) = some FieldType.boolean → ∀ x, r = some (.int x) → x = 0 ∨ x = 1) (body : ∀ V : Nat → LV → List Value → IM → LM → Prop, Ru l kdR 12 RX8 cX8_begin rmX8_begin FX8 tX8_begin V (fun st J K => st = r.toList ∧ J = I2 ∧ K = L2) → V 0 (lv_args 0 av) [] I L) : KX8_begin l av I L r I2 L2 := cr_of (y := yX8_begin) (cc := cX8_begin) (nL := 3) (ret := (some .int)) (rm := rmX8_begin) (own := RX8) (F := FX8) (P := tX8_begin) (by decide +kernel) rfl kdR_ok fokX8 okX8_begin (by decide +kernel) (by decide +kernel) hlen hz body
abbrev rmX8_sign : Room := { frames := 2, cells := 0, slots := 0, locals := 43 }
abbrev KX8_sign (l : Launch) (av : List Value) (I : IM) (L : LM) (r : Option Value) (I2 : IM) (L2 : LM) : Prop := CR l kdR 12 yX8_sign cX8_sign 4 (some .int) rmX8_sign av I L r I2 L2
theorem wX8_sign (l : Launch) {av : List Value} {I : IM} {L : LM} {r : Option Value} {I2 : IM} {L2 : LM} (hlen : Nat.ble (lg_sl av).length 4 = true) (hz : (some .int) = some FieldType.boolean → ∀ x, r = some (.int x) → x = 0 ∨ x = 1) (body : ∀ V : Nat → LV → List Value → IM → LM → Prop, Ru l kdR 12 RX8 cX8_sign rmX8_sign FX8 tX8_sign V (fun st J K => st = r.toList ∧ J = I2 ∧ K = L2) → V 0 (lv_args 0 av) [] I L) : KX8_sign l av I L r I2 L2 := cr_of (y := yX8_sign) (cc := cX8_sign) (nL := 4) (ret := (some .int)) (rm := rmX8_sign) (own := RX8) (F := FX8) (P := tX8_sign) (by decide +kernel) rfl kdR_ok fokX8 okX8_sign (by decide +kernel) (by decide +kernel) hlen hz body
abbrev rmX8_matrix : Room := { frames := 2, cells := 0, slots := 0, locals := 43 }
abbrev KX8_matrix (l : Launch) (av : List Value) (I : IM) (L : LM) (r : Option Value) (I2 : IM) (L2 : LM) : Prop := CR l kdR 12 yX8_matrix cX8_matrix 6 (some .int) rmX8_matrix av I L r I2 L2
theorem wX8_matrix (l : Launch) {av : List Value} {I : IM} {L : LM} {r : Option Value} {I2 : IM} {L2 : LM} (hlen : Nat.ble (lg_sl av).length 6 = true) (hz : (some .int) = some FieldType.boolean → ∀ x, r = some (.int x) → x = 0 ∨ x = 1) (body : ∀ V : Nat → LV → List Value → IM → LM → Prop, Ru l kdR 12 RX8 cX8_matrix rmX8_matrix FX8 tX8_matrix V (fun st J K => st = r.toList ∧ J = I2 ∧ K = L2) → V 0 (lv_args 0 av) [] I L) : KX8_matrix l av I L r I2 L2 := cr_of (y := yX8_matrix) (cc := cX8_matrix) (nL := 6) (ret := (some .int)) (rm := rmX8_matrix) (own := RX8) (F := FX8) (P := tX8_matrix) (by decide +kernel) rfl kdR_ok fokX8 okX8_matrix (by decide +kernel) (by decide +kernel) hlen hz body
abbrev rmX8_set : Room := { frames := 2, cells := 0, slots := 0, locals := 43 }
abbrev KX8_set (l : Launch) (av : List Value) (I : IM) (L : LM) (r : Option Value) (I2 : IM) (L2 : LM) : Prop := CR l kdR 12 yX8_set cX8_set 5 (some .int) rmX8_set av I L r I2 L2
theorem wX8_set (l : Launch) {av : List Value} {I : IM} {L : LM} {r : Option Value} {I2 : IM} {L2 : LM} (hlen : Nat.ble (lg_sl av).length 5 = true) (hz : (some .int) = some FieldType.boolean → ∀ x, r = some (.int x) → x = 0 ∨ x = 1) (body : ∀ V : Nat → LV → List Value → IM → LM → Prop, Ru l kdR 12 RX8 cX8_set rmX8_set FX8 tX8_set V (fun st J K => st = r.toList ∧ J = I2 ∧ K = L2) → V 0 (lv_args 0 av) [] I L) : KX8_set l av I L r I2 L2 := cr_of (y := yX8_set) (cc := cX8_set) (nL := 5) (ret := (some .int)) (rm := rmX8_set) (own := RX8) (F := FX8) (P := tX8_set) (by decide +kernel) rfl kdR_ok fokX8 okX8_set (by decide +kernel) (by decide +kernel) hlen hz body
abbrev rmX8_laySlots : Room := { frames := 1, cells := 0, slots := 0, locals := 22 }
abbrev KX8_laySlots (l : Launch) (av : List Value) (I : IM) (L : LM) (r : Option Value) (I2 : IM) (L2 : LM) : Prop := CR l kdR 12 yX8_laySlots cX8_laySlots 4 none rmX8_laySlots av I L r I2 L2
theorem wX8_laySlots (l : Launch) {av : List Value} {I : IM} {L : LM} {r : Option Value} {I2 : IM} {L2 : LM} (hlen : Nat.ble (lg_sl av).length 4 = true) (hz : none = some FieldType.boolean → ∀ x, r = some (.int x) → x = 0 ∨ x = 1) (body : ∀ V : Nat → LV → List Value → IM → LM → Prop, Ru l kdR 12 RX8 cX8_laySlots rmX8_laySlots FX8 tX8_laySlots V (fun st J K => st = r.toList ∧ J = I2 ∧ K = L2) → V 0 (lv_args 0 av) [] I L) : KX8_laySlots l av I L r I2 L2 := cr_of (y := yX8_laySlots) (cc := cX8_laySlots) (nL := 4) (ret := none) (rm := rmX8_laySlots) (own := RX8) (F := FX8) (P := tX8_laySlots) (by decide +kernel) rfl kdR_ok fokX8 okX8_laySlots (by decide +kernel) (by decide +kernel) hlen hz body
abbrev rmX8_layWedge : Room := { frames := 3, cells := 0, slots := 0, locals := 66 }
abbrev KX8_layWedge (l : Launch) (av : List Value) (I : IM) (L : LM) (r : Option Value) (I2 : IM) (L2 : LM) : Prop := CR l kdR 12 yX8_layWedge cX8_layWedge 5 none rmX8_layWedge av I L r I2 L2
theorem wX8_layWedge (l : Launch) {av : List Value} {I : IM} {L : LM} {r : Option Value} {I2 : IM} {L2 : LM} (hlen : Nat.ble (lg_sl av).length 5 = true) (hz : none = some FieldType.boolean → ∀ x, r = some (.int x) → x = 0 ∨ x = 1) (body : ∀ V : Nat → LV → List Value → IM → LM → Prop, Ru l kdR 12 RX8 cX8_layWedge rmX8_layWedge FX8 tX8_layWedge V (fun st J K => st = r.toList ∧ J = I2 ∧ K = L2) → V 0 (lv_args 0 av) [] I L) : KX8_layWedge l av I L r I2 L2 := cr_of (y := yX8_layWedge) (cc := cX8_layWedge) (nL := 5) (ret := none) (rm := rmX8_layWedge) (own := RX8) (F := FX8) (P := tX8_layWedge) (by decide +kernel) rfl kdR_ok fokX8 okX8_layWedge (by decide +kernel) (by decide +kernel) hlen hz body
abbrev rmX8_layContraction : Room := { frames := 3, cells := 0, slots := 0, locals := 66 }
abbrev KX8_layContraction (l : Launch) (av : List Value) (I : IM) (L : LM) (r : Option Value) (I2 : IM) (L2 : LM) : Prop := CR l kdR 12 yX8_layContraction cX8_layContraction 5 none rmX8_layContraction av I L r I2 L2
theorem wX8_layContraction (l : Launch) {av : List Value} {I : IM} {L : LM} {r : Option Value} {I2 : IM} {L2 : LM} (hlen : Nat.ble (lg_sl av).length 5 = true) (hz : none = some FieldType.boolean → ∀ x, r = some (.int x) → x = 0 ∨ x = 1) (body : ∀ V : Nat → LV → List Value → IM → LM → Prop, Ru l kdR 12 RX8 cX8_layContraction rmX8_layContraction FX8 tX8_layContraction V (fun st J K => st = r.toList ∧ J = I2 ∧ K = L2) → V 0 (lv_args 0 av) [] I L) : KX8_layContraction l av I L r I2 L2 := cr_of (y := yX8_layContraction) (cc := cX8_layContraction) (nL := 5) (ret := none) (rm := rmX8_layContraction) (own := RX8) (F := FX8) (P := tX8_layContraction) (by decide +kernel) rfl kdR_ok fokX8 okX8_layContraction (by decide +kernel) (by decide +kernel) hlen hz body
abbrev rmX8_growBy : Room := { frames := 3, cells := 0, slots := 0, locals := 66 }
abbrev KX8_growBy (l : Launch) (av : List Value) (I : IM) (L : LM) (r : Option Value) (I2 : IM) (L2 : LM) : Prop := CR l kdR 12 yX8_growBy cX8_growBy 7 none rmX8_growBy av I L r I2 L2
theorem wX8_growBy (l : Launch) {av : List Value} {I : IM} {L : LM} {r : Option Value} {I2 : IM} {L2 : LM} (hlen : Nat.ble (lg_sl av).length 7 = true) (hz : none = some FieldType.boolean → ∀ x, r = some (.int x) → x = 0 ∨ x = 1) (body : ∀ V : Nat → LV → List Value → IM → LM → Prop, Ru l kdR 12 RX8 cX8_growBy rmX8_growBy FX8 tX8_growBy V (fun st J K => st = r.toList ∧ J = I2 ∧ K = L2) → V 0 (lv_args 0 av) [] I L) : KX8_growBy l av I L r I2 L2 := cr_of (y := yX8_growBy) (cc := cX8_growBy) (nL := 7) (ret := none) (rm := rmX8_growBy) (own := RX8) (F := FX8) (P := tX8_growBy) (by decide +kernel) rfl kdR_ok fokX8 okX8_growBy (by decide +kernel) (by decide +kernel) hlen hz body
abbrev rmX8_layGrown : Room := { frames := 4, cells := 0, slots := 0, locals := 92 }
abbrev KX8_layGrown (l : Launch) (av : List Value) (I : IM) (L : LM) (r : Option Value) (I2 : IM) (L2 : LM) : Prop := CR l kdR 12 yX8_layGrown cX8_layGrown 3 none rmX8_layGrown av I L r I2 L2
theorem wX8_layGrown (l : Launch) {av : List Value} {I : IM} {L : LM} {r : Option Value} {I2 : IM} {L2 : LM} (hlen : Nat.ble (lg_sl av).length 3 = true) (hz : none = some FieldType.boolean → ∀ x, r = some (.int x) → x = 0 ∨ x = 1) (body : ∀ V : Nat → LV → List Value → IM → LM → Prop, Ru l kdR 12 RX8 cX8_layGrown rmX8_layGrown FX8 tX8_layGrown V (fun st J K => st = r.toList ∧ J = I2 ∧ K = L2) → V 0 (lv_args 0 av) [] I L) : KX8_layGrown l av I L r I2 L2 := cr_of (y := yX8_layGrown) (cc := cX8_layGrown) (nL := 3) (ret := none) (rm := rmX8_layGrown) (own := RX8) (F := FX8) (P := tX8_layGrown) (by decide +kernel) rfl kdR_ok fokX8 okX8_layGrown (by decide +kernel) (by decide +kernel) hlen hz body
abbrev rmX8_layPush : Room := { frames := 5, cells := 0, slots := 0, locals := 114 }
abbrev KX8_layPush (l : Launch) (av : List Value) (I : IM) (L : LM) (r : Option Value) (I2 : IM) (L2 : LM) : Prop := CR l kdR 12 yX8_layPush cX8_layPush 3 none rmX8_layPush av I L r I2 L2
theorem wX8_layPush (l : Launch) {av : List Value} {I : IM} {L : LM} {r : Option Value} {I2 : IM} {L2 : LM} (hlen : Nat.ble (lg_sl av).length 3 = true) (hz : none = some FieldType.boolean → ∀ x, r = some (.int x) → x = 0 ∨ x = 1) (body : ∀ V : Nat → LV → List Value → IM → LM → Prop, Ru l kdR 12 RX8 cX8_layPush rmX8_layPush FX8 tX8_layPush V (fun st J K => st = r.toList ∧ J = I2 ∧ K = L2) → V 0 (lv_args 0 av) [] I L) : KX8_layPush l av I L r I2 L2 := cr_of (y := yX8_layPush) (cc := cX8_layPush) (nL := 3) (ret := none) (rm := rmX8_layPush) (own := RX8) (F := FX8) (P := tX8_layPush) (by decide +kernel) rfl kdR_ok fokX8 okX8_layPush (by decide +kernel) (by decide +kernel) hlen hz body
abbrev rmX8_layBy : Room := { frames := 6, cells := 0, slots := 0, locals := 136 }
abbrev KX8_layBy (l : Launch) (av : List Value) (I : IM) (L : LM) (r : Option Value) (I2 : IM) (L2 : LM) : Prop := CR l kdR 12 yX8_layBy cX8_layBy 5 none rmX8_layBy av I L r I2 L2
theorem wX8_layBy (l : Launch) {av : List Value} {I : IM} {L : LM} {r : Option Value} {I2 : IM} {L2 : LM} (hlen : Nat.ble (lg_sl av).length 5 = true) (hz : none = some FieldType.boolean → ∀ x, r = some (.int x) → x = 0 ∨ x = 1) (body : ∀ V : Nat → LV → List Value → IM → LM → Prop, Ru l kdR 12 RX8 cX8_layBy rmX8_layBy FX8 tX8_layBy V (fun st J K => st = r.toList ∧ J = I2 ∧ K = L2) → V 0 (lv_args 0 av) [] I L) : KX8_layBy l av I L r I2 L2 := cr_of (y := yX8_layBy) (cc := cX8_layBy) (nL := 5) (ret := none) (rm := rmX8_layBy) (own := RX8) (F := FX8) (P := tX8_layBy) (by decide +kernel) rfl kdR_ok fokX8 okX8_layBy (by decide +kernel) (by decide +kernel) hlen hz body
abbrev rmX8_beyond : Room := { frames := 1, cells := 0, slots := 0, locals := 20 }
abbrev KX8_beyond (l : Launch) (av : List Value) (I : IM) (L : LM) (r : Option Value) (I2 : IM) (L2 : LM) : Prop := CR l kdR 12 yX8_beyond cX8_beyond 2 (some .int) rmX8_beyond av I L r I2 L2
theorem wX8_beyond (l : Launch) {av : List Value} {I : IM} {L : LM} {r : Option Value} {I2 : IM} {L2 : LM} (hlen : Nat.ble (lg_sl av).length 2 = true) (hz : (some .int) = some FieldType.boolean → ∀ x, r = some (.int x) → x = 0 ∨ x = 1) (body : ∀ V : Nat → LV → List Value → IM → LM → Prop, Ru l kdR 12 RX8 cX8_beyond rmX8_beyond FX8 tX8_beyond V (fun st J K => st = r.toList ∧ J = I2 ∧ K = L2) → V 0 (lv_args 0 av) [] I L) : KX8_beyond l av I L r I2 L2 := cr_of (y := yX8_beyond) (cc := cX8_beyond) (nL := 2) (ret := (some .int)) (rm := rmX8_beyond) (own := RX8) (F := FX8) (P := tX8_beyond) (by decide +kernel) rfl kdR_ok fokX8 okX8_beyond (by decide +kernel) (by decide +kernel) hlen hz body
abbrev rmX8_many : Room := { frames := 1, cells := 0, slots := 0, locals := 22 }
abbrev KX8_many (l : Launch) (av : List Value) (I : IM) (L : LM) (r : Option Value) (I2 : IM) (L2 : LM) : Prop := CR l kdR 12 yX8_many cX8_many 4 (some .int) rmX8_many av I L r I2 L2
theorem wX8_many (l : Launch) {av : List Value} {I : IM} {L : LM} {r : Option Value} {I2 : IM} {L2 : LM} (hlen : Nat.ble (lg_sl av).length 4 = true) (hz : (some .int) = some FieldType.boolean → ∀ x, r = some (.int x) → x = 0 ∨ x = 1) (body : ∀ V : Nat → LV → List Value → IM → LM → Prop, Ru l kdR 12 RX8 cX8_many rmX8_many FX8 tX8_many V (fun st J K => st = r.toList ∧ J = I2 ∧ K = L2) → V 0 (lv_args 0 av) [] I L) : KX8_many l av I L r I2 L2 := cr_of (y := yX8_many) (cc := cX8_many) (nL := 4) (ret := (some .int)) (rm := rmX8_many) (own := RX8) (F := FX8) (P := tX8_many) (by decide +kernel) rfl kdR_ok fokX8 okX8_many (by decide +kernel) (by decide +kernel) hlen hz body
abbrev rmX8_keep : Room := { frames := 2, cells := 0, slots := 0, locals := 45 }
abbrev KX8_keep (l : Launch) (av : List Value) (I : IM) (L : LM) (r : Option Value) (I2 : IM) (L2 : LM) : Prop := CR l kdR 12 yX8_keep cX8_keep 4 (some .int) rmX8_keep av I L r I2 L2
theorem wX8_keep (l : Launch) {av : List Value} {I : IM} {L : LM} {r : Option Value} {I2 : IM} {L2 : LM} (hlen : Nat.ble (lg_sl av).length 4 = true) (hz : (some .int) = some FieldType.boolean → ∀ x, r = some (.int x) → x = 0 ∨ x = 1) (body : ∀ V : Nat → LV → List Value → IM → LM → Prop, Ru l kdR 12 RX8 cX8_keep rmX8_keep FX8 tX8_keep V (fun st J K => st = r.toList ∧ J = I2 ∧ K = L2) → V 0 (lv_args 0 av) [] I L) : KX8_keep l av I L r I2 L2 := cr_of (y := yX8_keep) (cc := cX8_keep) (nL := 4) (ret := (some .int)) (rm := rmX8_keep) (own := RX8) (F := FX8) (P := tX8_keep) (by decide +kernel) rfl kdR_ok fokX8 okX8_keep (by decide +kernel) (by decide +kernel) hlen hz body
abbrev rmX8_keepOr : Room := { frames := 3, cells := 0, slots := 0, locals := 68 }
abbrev KX8_keepOr (l : Launch) (av : List Value) (I : IM) (L : LM) (r : Option Value) (I2 : IM) (L2 : LM) : Prop := CR l kdR 12 yX8_keepOr cX8_keepOr 4 (some .int) rmX8_keepOr av I L r I2 L2
theorem wX8_keepOr (l : Launch) {av : List Value} {I : IM} {L : LM} {r : Option Value} {I2 : IM} {L2 : LM} (hlen : Nat.ble (lg_sl av).length 4 = true) (hz : (some .int) = some FieldType.boolean → ∀ x, r = some (.int x) → x = 0 ∨ x = 1) (body : ∀ V : Nat → LV → List Value → IM → LM → Prop, Ru l kdR 12 RX8 cX8_keepOr rmX8_keepOr FX8 tX8_keepOr V (fun st J K => st = r.toList ∧ J = I2 ∧ K = L2) → V 0 (lv_args 0 av) [] I L) : KX8_keepOr l av I L r I2 L2 := cr_of (y := yX8_keepOr) (cc := cX8_keepOr) (nL := 4) (ret := (some .int)) (rm := rmX8_keepOr) (own := RX8) (F := FX8) (P := tX8_keepOr) (by decide +kernel) rfl kdR_ok fokX8 okX8_keepOr (by decide +kernel) (by decide +kernel) hlen hz body
abbrev rmX8_sum : Room := { frames := 7, cells := 0, slots := 0, locals := 160 }
abbrev KX8_sum (l : Launch) (av : List Value) (I : IM) (L : LM) (r : Option Value) (I2 : IM) (L2 : LM) : Prop := CR l kdR 12 yX8_sum cX8_sum 4 (some .int) rmX8_sum av I L r I2 L2
theorem wX8_sum (l : Launch) {av : List Value} {I : IM} {L : LM} {r : Option Value} {I2 : IM} {L2 : LM} (hlen : Nat.ble (lg_sl av).length 4 = true) (hz : (some .int) = some FieldType.boolean → ∀ x, r = some (.int x) → x = 0 ∨ x = 1) (body : ∀ V : Nat → LV → List Value → IM → LM → Prop, Ru l kdR 12 RX8 cX8_sum rmX8_sum FX8 tX8_sum V (fun st J K => st = r.toList ∧ J = I2 ∧ K = L2) → V 0 (lv_args 0 av) [] I L) : KX8_sum l av I L r I2 L2 := cr_of (y := yX8_sum) (cc := cX8_sum) (nL := 4) (ret := (some .int)) (rm := rmX8_sum) (own := RX8) (F := FX8) (P := tX8_sum) (by decide +kernel) rfl kdR_ok fokX8 okX8_sum (by decide +kernel) (by decide +kernel) hlen hz body
abbrev rmX8_scale : Room := { frames := 4, cells := 0, slots := 0, locals := 91 }
abbrev KX8_scale (l : Launch) (av : List Value) (I : IM) (L : LM) (r : Option Value) (I2 : IM) (L2 : LM) : Prop := CR l kdR 12 yX8_scale cX8_scale 5 (some .int) rmX8_scale av I L r I2 L2
theorem wX8_scale (l : Launch) {av : List Value} {I : IM} {L : LM} {r : Option Value} {I2 : IM} {L2 : LM} (hlen : Nat.ble (lg_sl av).length 5 = true) (hz : (some .int) = some FieldType.boolean → ∀ x, r = some (.int x) → x = 0 ∨ x = 1) (body : ∀ V : Nat → LV → List Value → IM → LM → Prop, Ru l kdR 12 RX8 cX8_scale rmX8_scale FX8 tX8_scale V (fun st J K => st = r.toList ∧ J = I2 ∧ K = L2) → V 0 (lv_args 0 av) [] I L) : KX8_scale l av I L r I2 L2 := cr_of (y := yX8_scale) (cc := cX8_scale) (nL := 5) (ret := (some .int)) (rm := rmX8_scale) (own := RX8) (F := FX8) (P := tX8_scale) (by decide +kernel) rfl kdR_ok fokX8 okX8_scale (by decide +kernel) (by decide +kernel) hlen hz body
abbrev rmX8_wedge : Room := { frames := 7, cells := 0, slots := 0, locals := 160 }
abbrev KX8_wedge (l : Launch) (av : List Value) (I : IM) (L : LM) (r : Option Value) (I2 : IM) (L2 : LM) : Prop := CR l kdR 12 yX8_wedge cX8_wedge 4 (some .int) rmX8_wedge av I L r I2 L2
theorem wX8_wedge (l : Launch) {av : List Value} {I : IM} {L : LM} {r : Option Value} {I2 : IM} {L2 : LM} (hlen : Nat.ble (lg_sl av).length 4 = true) (hz : (some .int) = some FieldType.boolean → ∀ x, r = some (.int x) → x = 0 ∨ x = 1) (body : ∀ V : Nat → LV → List Value → IM → LM → Prop, Ru l kdR 12 RX8 cX8_wedge rmX8_wedge FX8 tX8_wedge V (fun st J K => st = r.toList ∧ J = I2 ∧ K = L2) → V 0 (lv_args 0 av) [] I L) : KX8_wedge l av I L r I2 L2 := cr_of (y := yX8_wedge) (cc := cX8_wedge) (nL := 4) (ret := (some .int)) (rm := rmX8_wedge) (own := RX8) (F := FX8) (P := tX8_wedge) (by decide +kernel) rfl kdR_ok fokX8 okX8_wedge (by decide +kernel) (by decide +kernel) hlen hz body
abbrev rmX8_contract : Room := { frames := 7, cells := 0, slots := 0, locals := 160 }
abbrev KX8_contract (l : Launch) (av : List Value) (I : IM) (L : LM) (r : Option Value) (I2 : IM) (L2 : LM) : Prop := CR l kdR 12 yX8_contract cX8_contract 4 (some .int) rmX8_contract av I L r I2 L2
theorem wX8_contract (l : Launch) {av : List Value} {I : IM} {L : LM} {r : Option Value} {I2 : IM} {L2 : LM} (hlen : Nat.ble (lg_sl av).length 4 = true) (hz : (some .int) = some FieldType.boolean → ∀ x, r = some (.int x) → x = 0 ∨ x = 1) (body : ∀ V : Nat → LV → List Value → IM → LM → Prop, Ru l kdR 12 RX8 cX8_contract rmX8_contract FX8 tX8_contract V (fun st J K => st = r.toList ∧ J = I2 ∧ K = L2) → V 0 (lv_args 0 av) [] I L) : KX8_contract l av I L r I2 L2 := cr_of (y := yX8_contract) (cc := cX8_contract) (nL := 4) (ret := (some .int)) (rm := rmX8_contract) (own := RX8) (F := FX8) (P := tX8_contract) (by decide +kernel) rfl kdR_ok fokX8 okX8_contract (by decide +kernel) (by decide +kernel) hlen hz body
abbrev rmX8_star : Room := { frames := 3, cells := 0, slots := 0, locals := 68 }
abbrev KX8_star (l : Launch) (av : List Value) (I : IM) (L : LM) (r : Option Value) (I2 : IM) (L2 : LM) : Prop := CR l kdR 12 yX8_star cX8_star 5 (some .int) rmX8_star av I L r I2 L2
theorem wX8_star (l : Launch) {av : List Value} {I : IM} {L : LM} {r : Option Value} {I2 : IM} {L2 : LM} (hlen : Nat.ble (lg_sl av).length 5 = true) (hz : (some .int) = some FieldType.boolean → ∀ x, r = some (.int x) → x = 0 ∨ x = 1) (body : ∀ V : Nat → LV → List Value → IM → LM → Prop, Ru l kdR 12 RX8 cX8_star rmX8_star FX8 tX8_star V (fun st J K => st = r.toList ∧ J = I2 ∧ K = L2) → V 0 (lv_args 0 av) [] I L) : KX8_star l av I L r I2 L2 := cr_of (y := yX8_star) (cc := cX8_star) (nL := 5) (ret := (some .int)) (rm := rmX8_star) (own := RX8) (F := FX8) (P := tX8_star) (by decide +kernel) rfl kdR_ok fokX8 okX8_star (by decide +kernel) (by decide +kernel) hlen hz body
abbrev rmX8_part : Room := { frames := 3, cells := 0, slots := 0, locals := 68 }
abbrev KX8_part (l : Launch) (av : List Value) (I : IM) (L : LM) (r : Option Value) (I2 : IM) (L2 : LM) : Prop := CR l kdR 12 yX8_part cX8_part 5 (some .int) rmX8_part av I L r I2 L2
theorem wX8_part (l : Launch) {av : List Value} {I : IM} {L : LM} {r : Option Value} {I2 : IM} {L2 : LM} (hlen : Nat.ble (lg_sl av).length 5 = true) (hz : (some .int) = some FieldType.boolean → ∀ x, r = some (.int x) → x = 0 ∨ x = 1) (body : ∀ V : Nat → LV → List Value → IM → LM → Prop, Ru l kdR 12 RX8 cX8_part rmX8_part FX8 tX8_part V (fun st J K => st = r.toList ∧ J = I2 ∧ K = L2) → V 0 (lv_args 0 av) [] I L) : KX8_part l av I L r I2 L2 := cr_of (y := yX8_part) (cc := cX8_part) (nL := 5) (ret := (some .int)) (rm := rmX8_part) (own := RX8) (F := FX8) (P := tX8_part) (by decide +kernel) rfl kdR_ok fokX8 okX8_part (by decide +kernel) (by decide +kernel) hlen hz body
abbrev rmX8_reverse : Room := { frames := 3, cells := 0, slots := 0, locals := 68 }
abbrev KX8_reverse (l : Launch) (av : List Value) (I : IM) (L : LM) (r : Option Value) (I2 : IM) (L2 : LM) : Prop := CR l kdR 12 yX8_reverse cX8_reverse 4 (some .int) rmX8_reverse av I L r I2 L2
theorem wX8_reverse (l : Launch) {av : List Value} {I : IM} {L : LM} {r : Option Value} {I2 : IM} {L2 : LM} (hlen : Nat.ble (lg_sl av).length 4 = true) (hz : (some .int) = some FieldType.boolean → ∀ x, r = some (.int x) → x = 0 ∨ x = 1) (body : ∀ V : Nat → LV → List Value → IM → LM → Prop, Ru l kdR 12 RX8 cX8_reverse rmX8_reverse FX8 tX8_reverse V (fun st J K => st = r.toList ∧ J = I2 ∧ K = L2) → V 0 (lv_args 0 av) [] I L) : KX8_reverse l av I L r I2 L2 := cr_of (y := yX8_reverse) (cc := cX8_reverse) (nL := 4) (ret := (some .int)) (rm := rmX8_reverse) (own := RX8) (F := FX8) (P := tX8_reverse) (by decide +kernel) rfl kdR_ok fokX8 okX8_reverse (by decide +kernel) (by decide +kernel) hlen hz body
abbrev rmX8_push : Room := { frames := 7, cells := 0, slots := 0, locals := 160 }
abbrev KX8_push (l : Launch) (av : List Value) (I : IM) (L : LM) (r : Option Value) (I2 : IM) (L2 : LM) : Prop := CR l kdR 12 yX8_push cX8_push 3 (some .int) rmX8_push av I L r I2 L2
theorem wX8_push (l : Launch) {av : List Value} {I : IM} {L : LM} {r : Option Value} {I2 : IM} {L2 : LM} (hlen : Nat.ble (lg_sl av).length 3 = true) (hz : (some .int) = some FieldType.boolean → ∀ x, r = some (.int x) → x = 0 ∨ x = 1) (body : ∀ V : Nat → LV → List Value → IM → LM → Prop, Ru l kdR 12 RX8 cX8_push rmX8_push FX8 tX8_push V (fun st J K => st = r.toList ∧ J = I2 ∧ K = L2) → V 0 (lv_args 0 av) [] I L) : KX8_push l av I L r I2 L2 := cr_of (y := yX8_push) (cc := cX8_push) (nL := 3) (ret := (some .int)) (rm := rmX8_push) (own := RX8) (F := FX8) (P := tX8_push) (by decide +kernel) rfl kdR_ok fokX8 okX8_push (by decide +kernel) (by decide +kernel) hlen hz body
abbrev rmX8_append : Room := { frames := 1, cells := 0, slots := 0, locals := 22 }
abbrev KX8_append (l : Launch) (av : List Value) (I : IM) (L : LM) (r : Option Value) (I2 : IM) (L2 : LM) : Prop := CR l kdR 12 yX8_append cX8_append 2 (some .int) rmX8_append av I L r I2 L2
theorem wX8_append (l : Launch) {av : List Value} {I : IM} {L : LM} {r : Option Value} {I2 : IM} {L2 : LM} (hlen : Nat.ble (lg_sl av).length 2 = true) (hz : (some .int) = some FieldType.boolean → ∀ x, r = some (.int x) → x = 0 ∨ x = 1) (body : ∀ V : Nat → LV → List Value → IM → LM → Prop, Ru l kdR 12 RX8 cX8_append rmX8_append FX8 tX8_append V (fun st J K => st = r.toList ∧ J = I2 ∧ K = L2) → V 0 (lv_args 0 av) [] I L) : KX8_append l av I L r I2 L2 := cr_of (y := yX8_append) (cc := cX8_append) (nL := 2) (ret := (some .int)) (rm := rmX8_append) (own := RX8) (F := FX8) (P := tX8_append) (by decide +kernel) rfl kdR_ok fokX8 okX8_append (by decide +kernel) (by decide +kernel) hlen hz body
abbrev rmX8_clearBuffer : Room := { frames := 0, cells := 0, slots := 0, locals := 0 }
abbrev KX8_clearBuffer (l : Launch) (av : List Value) (I : IM) (L : LM) (r : Option Value) (I2 : IM) (L2 : LM) : Prop := CR l kdR 12 yX8_clearBuffer cX8_clearBuffer 2 (some .int) rmX8_clearBuffer av I L r I2 L2
theorem wX8_clearBuffer (l : Launch) {av : List Value} {I : IM} {L : LM} {r : Option Value} {I2 : IM} {L2 : LM} (hlen : Nat.ble (lg_sl av).length 2 = true) (hz : (some .int) = some FieldType.boolean → ∀ x, r = some (.int x) → x = 0 ∨ x = 1) (body : ∀ V : Nat → LV → List Value → IM → LM → Prop, Ru l kdR 12 RX8 cX8_clearBuffer rmX8_clearBuffer FX8 tX8_clearBuffer V (fun st J K => st = r.toList ∧ J = I2 ∧ K = L2) → V 0 (lv_args 0 av) [] I L) : KX8_clearBuffer l av I L r I2 L2 := cr_of (y := yX8_clearBuffer) (cc := cX8_clearBuffer) (nL := 2) (ret := (some .int)) (rm := rmX8_clearBuffer) (own := RX8) (F := FX8) (P := tX8_clearBuffer) (by decide +kernel) rfl kdR_ok fokX8 okX8_clearBuffer (by decide +kernel) (by decide +kernel) hlen hz body
abbrev rmX8_addTerm : Room := { frames := 0, cells := 0, slots := 0, locals := 0 }
abbrev KX8_addTerm (l : Launch) (av : List Value) (I : IM) (L : LM) (r : Option Value) (I2 : IM) (L2 : LM) : Prop := CR l kdR 12 yX8_addTerm cX8_addTerm 2 none rmX8_addTerm av I L r I2 L2
theorem wX8_addTerm (l : Launch) {av : List Value} {I : IM} {L : LM} {r : Option Value} {I2 : IM} {L2 : LM} (hlen : Nat.ble (lg_sl av).length 2 = true) (hz : none = some FieldType.boolean → ∀ x, r = some (.int x) → x = 0 ∨ x = 1) (body : ∀ V : Nat → LV → List Value → IM → LM → Prop, Ru l kdR 12 RX8 cX8_addTerm rmX8_addTerm FX8 tX8_addTerm V (fun st J K => st = r.toList ∧ J = I2 ∧ K = L2) → V 0 (lv_args 0 av) [] I L) : KX8_addTerm l av I L r I2 L2 := cr_of (y := yX8_addTerm) (cc := cX8_addTerm) (nL := 2) (ret := none) (rm := rmX8_addTerm) (own := RX8) (F := FX8) (P := tX8_addTerm) (by decide +kernel) rfl kdR_ok fokX8 okX8_addTerm (by decide +kernel) (by decide +kernel) hlen hz body
abbrev rmX8_beginTerm : Room := { frames := 1, cells := 0, slots := 0, locals := 22 }
abbrev KX8_beginTerm (l : Launch) (av : List Value) (I : IM) (L : LM) (r : Option Value) (I2 : IM) (L2 : LM) : Prop := CR l kdR 12 yX8_beginTerm cX8_beginTerm 2 (some .int) rmX8_beginTerm av I L r I2 L2
theorem wX8_beginTerm (l : Launch) {av : List Value} {I : IM} {L : LM} {r : Option Value} {I2 : IM} {L2 : LM} (hlen : Nat.ble (lg_sl av).length 2 = true) (hz : (some .int) = some FieldType.boolean → ∀ x, r = some (.int x) → x = 0 ∨ x = 1) (body : ∀ V : Nat → LV → List Value → IM → LM → Prop, Ru l kdR 12 RX8 cX8_beginTerm rmX8_beginTerm FX8 tX8_beginTerm V (fun st J K => st = r.toList ∧ J = I2 ∧ K = L2) → V 0 (lv_args 0 av) [] I L) : KX8_beginTerm l av I L r I2 L2 := cr_of (y := yX8_beginTerm) (cc := cX8_beginTerm) (nL := 2) (ret := (some .int)) (rm := rmX8_beginTerm) (own := RX8) (F := FX8) (P := tX8_beginTerm) (by decide +kernel) rfl kdR_ok fokX8 okX8_beginTerm (by decide +kernel) (by decide +kernel) hlen hz body
abbrev rmX8_endTerm : Room := { frames := 1, cells := 0, slots := 0, locals := 21 }
abbrev KX8_endTerm (l : Launch) (av : List Value) (I : IM) (L : LM) (r : Option Value) (I2 : IM) (L2 : LM) : Prop := CR l kdR 12 yX8_endTerm cX8_endTerm 2 (some .int) rmX8_endTerm av I L r I2 L2
theorem wX8_endTerm (l : Launch) {av : List Value} {I : IM} {L : LM} {r : Option Value} {I2 : IM} {L2 : LM} (hlen : Nat.ble (lg_sl av).length 2 = true) (hz : (some .int) = some FieldType.boolean → ∀ x, r = some (.int x) → x = 0 ∨ x = 1) (body : ∀ V : Nat → LV → List Value → IM → LM → Prop, Ru l kdR 12 RX8 cX8_endTerm rmX8_endTerm FX8 tX8_endTerm V (fun st J K => st = r.toList ∧ J = I2 ∧ K = L2) → V 0 (lv_args 0 av) [] I L) : KX8_endTerm l av I L r I2 L2 := cr_of (y := yX8_endTerm) (cc := cX8_endTerm) (nL := 2) (ret := (some .int)) (rm := rmX8_endTerm) (own := RX8) (F := FX8) (P := tX8_endTerm) (by decide +kernel) rfl kdR_ok fokX8 okX8_endTerm (by decide +kernel) (by decide +kernel) hlen hz body
abbrev rmX8_nextState : Room := { frames := 2, cells := 0, slots := 0, locals := 43 }
abbrev KX8_nextState (l : Launch) (av : List Value) (I : IM) (L : LM) (r : Option Value) (I2 : IM) (L2 : LM) : Prop := CR l kdR 12 yX8_nextState cX8_nextState 5 (some .int) rmX8_nextState av I L r I2 L2
theorem wX8_nextState (l : Launch) {av : List Value} {I : IM} {L : LM} {r : Option Value} {I2 : IM} {L2 : LM} (hlen : Nat.ble (lg_sl av).length 5 = true) (hz : (some .int) = some FieldType.boolean → ∀ x, r = some (.int x) → x = 0 ∨ x = 1) (body : ∀ V : Nat → LV → List Value → IM → LM → Prop, Ru l kdR 12 RX8 cX8_nextState rmX8_nextState FX8 tX8_nextState V (fun st J K => st = r.toList ∧ J = I2 ∧ K = L2) → V 0 (lv_args 0 av) [] I L) : KX8_nextState l av I L r I2 L2 := cr_of (y := yX8_nextState) (cc := cX8_nextState) (nL := 5) (ret := (some .int)) (rm := rmX8_nextState) (own := RX8) (F := FX8) (P := tX8_nextState) (by decide +kernel) rfl kdR_ok fokX8 okX8_nextState (by decide +kernel) (by decide +kernel) hlen hz body
abbrev rmX8_read : Room := { frames := 3, cells := 0, slots := 0, locals := 67 }
abbrev KX8_read (l : Launch) (av : List Value) (I : IM) (L : LM) (r : Option Value) (I2 : IM) (L2 : LM) : Prop := CR l kdR 12 yX8_read cX8_read 5 none rmX8_read av I L r I2 L2
theorem wX8_read (l : Launch) {av : List Value} {I : IM} {L : LM} {r : Option Value} {I2 : IM} {L2 : LM} (hlen : Nat.ble (lg_sl av).length 5 = true) (hz : none = some FieldType.boolean → ∀ x, r = some (.int x) → x = 0 ∨ x = 1) (body : ∀ V : Nat → LV → List Value → IM → LM → Prop, Ru l kdR 12 RX8 cX8_read rmX8_read FX8 tX8_read V (fun st J K => st = r.toList ∧ J = I2 ∧ K = L2) → V 0 (lv_args 0 av) [] I L) : KX8_read l av I L r I2 L2 := cr_of (y := yX8_read) (cc := cX8_read) (nL := 5) (ret := none) (rm := rmX8_read) (own := RX8) (F := FX8) (P := tX8_read) (by decide +kernel) rfl kdR_ok fokX8 okX8_read (by decide +kernel) (by decide +kernel) hlen hz body
abbrev rmX8_firstError : Room := { frames := 4, cells := 0, slots := 0, locals := 91 }
abbrev KX8_firstError (l : Launch) (av : List Value) (I : IM) (L : LM) (r : Option Value) (I2 : IM) (L2 : LM) : Prop := CR l kdR 12 yX8_firstError cX8_firstError 1 (some .int) rmX8_firstError av I L r I2 L2
theorem wX8_firstError (l : Launch) {av : List Value} {I : IM} {L : LM} {r : Option Value} {I2 : IM} {L2 : LM} (hlen : Nat.ble (lg_sl av).length 1 = true) (hz : (some .int) = some FieldType.boolean → ∀ x, r = some (.int x) → x = 0 ∨ x = 1) (body : ∀ V : Nat → LV → List Value → IM → LM → Prop, Ru l kdR 12 RX8 cX8_firstError rmX8_firstError FX8 tX8_firstError V (fun st J K => st = r.toList ∧ J = I2 ∧ K = L2) → V 0 (lv_args 0 av) [] I L) : KX8_firstError l av I L r I2 L2 := cr_of (y := yX8_firstError) (cc := cX8_firstError) (nL := 1) (ret := (some .int)) (rm := rmX8_firstError) (own := RX8) (F := FX8) (P := tX8_firstError) (by decide +kernel) rfl kdR_ok fokX8 okX8_firstError (by decide +kernel) (by decide +kernel) hlen hz body
abbrev rmX8_put : Room := { frames := 4, cells := 0, slots := 0, locals := 91 }
abbrev KX8_put (l : Launch) (av : List Value) (I : IM) (L : LM) (r : Option Value) (I2 : IM) (L2 : LM) : Prop := CR l kdR 12 yX8_put cX8_put 3 (some .int) rmX8_put av I L r I2 L2
theorem wX8_put (l : Launch) {av : List Value} {I : IM} {L : LM} {r : Option Value} {I2 : IM} {L2 : LM} (hlen : Nat.ble (lg_sl av).length 3 = true) (hz : (some .int) = some FieldType.boolean → ∀ x, r = some (.int x) → x = 0 ∨ x = 1) (body : ∀ V : Nat → LV → List Value → IM → LM → Prop, Ru l kdR 12 RX8 cX8_put rmX8_put FX8 tX8_put V (fun st J K => st = r.toList ∧ J = I2 ∧ K = L2) → V 0 (lv_args 0 av) [] I L) : KX8_put l av I L r I2 L2 := cr_of (y := yX8_put) (cc := cX8_put) (nL := 3) (ret := (some .int)) (rm := rmX8_put) (own := RX8) (F := FX8) (P := tX8_put) (by decide +kernel) rfl kdR_ok fokX8 okX8_put (by decide +kernel) (by decide +kernel) hlen hz body
abbrev rmX8_forms : Room := { frames := 2, cells := 0, slots := 0, locals := 45 }
abbrev KX8_forms (l : Launch) (av : List Value) (I : IM) (L : LM) (r : Option Value) (I2 : IM) (L2 : LM) : Prop := CR l kdR 12 yX8_forms cX8_forms 3 (some .int) rmX8_forms av I L r I2 L2
theorem wX8_forms (l : Launch) {av : List Value} {I : IM} {L : LM} {r : Option Value} {I2 : IM} {L2 : LM} (hlen : Nat.ble (lg_sl av).length 3 = true) (hz : (some .int) = some FieldType.boolean → ∀ x, r = some (.int x) → x = 0 ∨ x = 1) (body : ∀ V : Nat → LV → List Value → IM → LM → Prop, Ru l kdR 12 RX8 cX8_forms rmX8_forms FX8 tX8_forms V (fun st J K => st = r.toList ∧ J = I2 ∧ K = L2) → V 0 (lv_args 0 av) [] I L) : KX8_forms l av I L r I2 L2 := cr_of (y := yX8_forms) (cc := cX8_forms) (nL := 3) (ret := (some .int)) (rm := rmX8_forms) (own := RX8) (F := FX8) (P := tX8_forms) (by decide +kernel) rfl kdR_ok fokX8 okX8_forms (by decide +kernel) (by decide +kernel) hlen hz body
abbrev rmX8_kept : Room := { frames := 0, cells := 0, slots := 0, locals := 0 }
abbrev KX8_kept (l : Launch) (av : List Value) (I : IM) (L : LM) (r : Option Value) (I2 : IM) (L2 : LM) : Prop := CR l kdR 12 yX8_kept cX8_kept 1 (some .int) rmX8_kept av I L r I2 L2
theorem wX8_kept (l : Launch) {av : List Value} {I : IM} {L : LM} {r : Option Value} {I2 : IM} {L2 : LM} (hlen : Nat.ble (lg_sl av).length 1 = true) (hz : (some .int) = some FieldType.boolean → ∀ x, r = some (.int x) → x = 0 ∨ x = 1) (body : ∀ V : Nat → LV → List Value → IM → LM → Prop, Ru l kdR 12 RX8 cX8_kept rmX8_kept FX8 tX8_kept V (fun st J K => st = r.toList ∧ J = I2 ∧ K = L2) → V 0 (lv_args 0 av) [] I L) : KX8_kept l av I L r I2 L2 := cr_of (y := yX8_kept) (cc := cX8_kept) (nL := 1) (ret := (some .int)) (rm := rmX8_kept) (own := RX8) (F := FX8) (P := tX8_kept) (by decide +kernel) rfl kdR_ok fokX8 okX8_kept (by decide +kernel) (by decide +kernel) hlen hz body
abbrev rmX8_take : Room := { frames := 3, cells := 0, slots := 0, locals := 67 }
abbrev KX8_take (l : Launch) (av : List Value) (I : IM) (L : LM) (r : Option Value) (I2 : IM) (L2 : LM) : Prop := CR l kdR 12 yX8_take cX8_take 3 (some .int) rmX8_take av I L r I2 L2
theorem wX8_take (l : Launch) {av : List Value} {I : IM} {L : LM} {r : Option Value} {I2 : IM} {L2 : LM} (hlen : Nat.ble (lg_sl av).length 3 = true) (hz : (some .int) = some FieldType.boolean → ∀ x, r = some (.int x) → x = 0 ∨ x = 1) (body : ∀ V : Nat → LV → List Value → IM → LM → Prop, Ru l kdR 12 RX8 cX8_take rmX8_take FX8 tX8_take V (fun st J K => st = r.toList ∧ J = I2 ∧ K = L2) → V 0 (lv_args 0 av) [] I L) : KX8_take l av I L r I2 L2 := cr_of (y := yX8_take) (cc := cX8_take) (nL := 3) (ret := (some .int)) (rm := rmX8_take) (own := RX8) (F := FX8) (P := tX8_take) (by decide +kernel) rfl kdR_ok fokX8 okX8_take (by decide +kernel) (by decide +kernel) hlen hz body
abbrev rmX8_restore : Room := { frames := 3, cells := 0, slots := 0, locals := 67 }
abbrev KX8_restore (l : Launch) (av : List Value) (I : IM) (L : LM) (r : Option Value) (I2 : IM) (L2 : LM) : Prop := CR l kdR 12 yX8_restore cX8_restore 3 (some .int) rmX8_restore av I L r I2 L2
theorem wX8_restore (l : Launch) {av : List Value} {I : IM} {L : LM} {r : Option Value} {I2 : IM} {L2 : LM} (hlen : Nat.ble (lg_sl av).length 3 = true) (hz : (some .int) = some FieldType.boolean → ∀ x, r = some (.int x) → x = 0 ∨ x = 1) (body : ∀ V : Nat → LV → List Value → IM → LM → Prop, Ru l kdR 12 RX8 cX8_restore rmX8_restore FX8 tX8_restore V (fun st J K => st = r.toList ∧ J = I2 ∧ K = L2) → V 0 (lv_args 0 av) [] I L) : KX8_restore l av I L r I2 L2 := cr_of (y := yX8_restore) (cc := cX8_restore) (nL := 3) (ret := (some .int)) (rm := rmX8_restore) (own := RX8) (F := FX8) (P := tX8_restore) (by decide +kernel) rfl kdR_ok fokX8 okX8_restore (by decide +kernel) (by decide +kernel) hlen hz body
abbrev rmX8_undo : Room := { frames := 1, cells := 0, slots := 0, locals := 21 }
abbrev KX8_undo (l : Launch) (av : List Value) (I : IM) (L : LM) (r : Option Value) (I2 : IM) (L2 : LM) : Prop := CR l kdR 12 yX8_undo cX8_undo 2 (some .int) rmX8_undo av I L r I2 L2
theorem wX8_undo (l : Launch) {av : List Value} {I : IM} {L : LM} {r : Option Value} {I2 : IM} {L2 : LM} (hlen : Nat.ble (lg_sl av).length 2 = true) (hz : (some .int) = some FieldType.boolean → ∀ x, r = some (.int x) → x = 0 ∨ x = 1) (body : ∀ V : Nat → LV → List Value → IM → LM → Prop, Ru l kdR 12 RX8 cX8_undo rmX8_undo FX8 tX8_undo V (fun st J K => st = r.toList ∧ J = I2 ∧ K = L2) → V 0 (lv_args 0 av) [] I L) : KX8_undo l av I L r I2 L2 := cr_of (y := yX8_undo) (cc := cX8_undo) (nL := 2) (ret := (some .int)) (rm := rmX8_undo) (own := RX8) (F := FX8) (P := tX8_undo) (by decide +kernel) rfl kdR_ok fokX8 okX8_undo (by decide +kernel) (by decide +kernel) hlen hz body
abbrev rmX8_coefficient : Room := { frames := 2, cells := 0, slots := 0, locals := 43 }
abbrev KX8_coefficient (l : Launch) (av : List Value) (I : IM) (L : LM) (r : Option Value) (I2 : IM) (L2 : LM) : Prop := CR l kdR 12 yX8_coefficient cX8_coefficient 3 (some .int) rmX8_coefficient av I L r I2 L2
theorem wX8_coefficient (l : Launch) {av : List Value} {I : IM} {L : LM} {r : Option Value} {I2 : IM} {L2 : LM} (hlen : Nat.ble (lg_sl av).length 3 = true) (hz : (some .int) = some FieldType.boolean → ∀ x, r = some (.int x) → x = 0 ∨ x = 1) (body : ∀ V : Nat → LV → List Value → IM → LM → Prop, Ru l kdR 12 RX8 cX8_coefficient rmX8_coefficient FX8 tX8_coefficient V (fun st J K => st = r.toList ∧ J = I2 ∧ K = L2) → V 0 (lv_args 0 av) [] I L) : KX8_coefficient l av I L r I2 L2 := cr_of (y := yX8_coefficient) (cc := cX8_coefficient) (nL := 3) (ret := (some .int)) (rm := rmX8_coefficient) (own := RX8) (F := FX8) (P := tX8_coefficient) (by decide +kernel) rfl kdR_ok fokX8 okX8_coefficient (by decide +kernel) (by decide +kernel) hlen hz body
abbrev rmX8_lowest : Room := { frames := 1, cells := 0, slots := 0, locals := 22 }
abbrev KX8_lowest (l : Launch) (av : List Value) (I : IM) (L : LM) (r : Option Value) (I2 : IM) (L2 : LM) : Prop := CR l kdR 12 yX8_lowest cX8_lowest 4 (some .int) rmX8_lowest av I L r I2 L2
theorem wX8_lowest (l : Launch) {av : List Value} {I : IM} {L : LM} {r : Option Value} {I2 : IM} {L2 : LM} (hlen : Nat.ble (lg_sl av).length 4 = true) (hz : (some .int) = some FieldType.boolean → ∀ x, r = some (.int x) → x = 0 ∨ x = 1) (body : ∀ V : Nat → LV → List Value → IM → LM → Prop, Ru l kdR 12 RX8 cX8_lowest rmX8_lowest FX8 tX8_lowest V (fun st J K => st = r.toList ∧ J = I2 ∧ K = L2) → V 0 (lv_args 0 av) [] I L) : KX8_lowest l av I L r I2 L2 := cr_of (y := yX8_lowest) (cc := cX8_lowest) (nL := 4) (ret := (some .int)) (rm := rmX8_lowest) (own := RX8) (F := FX8) (P := tX8_lowest) (by decide +kernel) rfl kdR_ok fokX8 okX8_lowest (by decide +kernel) (by decide +kernel) hlen hz body
abbrev rmX8_highest : Room := { frames := 1, cells := 0, slots := 0, locals := 22 }
abbrev KX8_highest (l : Launch) (av : List Value) (I : IM) (L : LM) (r : Option Value) (I2 : IM) (L2 : LM) : Prop := CR l kdR 12 yX8_highest cX8_highest 4 (some .int) rmX8_highest av I L r I2 L2
theorem wX8_highest (l : Launch) {av : List Value} {I : IM} {L : LM} {r : Option Value} {I2 : IM} {L2 : LM} (hlen : Nat.ble (lg_sl av).length 4 = true) (hz : (some .int) = some FieldType.boolean → ∀ x, r = some (.int x) → x = 0 ∨ x = 1) (body : ∀ V : Nat → LV → List Value → IM → LM → Prop, Ru l kdR 12 RX8 cX8_highest rmX8_highest FX8 tX8_highest V (fun st J K => st = r.toList ∧ J = I2 ∧ K = L2) → V 0 (lv_args 0 av) [] I L) : KX8_highest l av I L r I2 L2 := cr_of (y := yX8_highest) (cc := cX8_highest) (nL := 4) (ret := (some .int)) (rm := rmX8_highest) (own := RX8) (F := FX8) (P := tX8_highest) (by decide +kernel) rfl kdR_ok fokX8 okX8_highest (by decide +kernel) (by decide +kernel) hlen hz body
abbrev rmX8_gradeOf : Room := { frames := 2, cells := 0, slots := 0, locals := 45 }
abbrev KX8_gradeOf (l : Launch) (av : List Value) (I : IM) (L : LM) (r : Option Value) (I2 : IM) (L2 : LM) : Prop := CR l kdR 12 yX8_gradeOf cX8_gradeOf 2 (some .int) rmX8_gradeOf av I L r I2 L2
theorem wX8_gradeOf (l : Launch) {av : List Value} {I : IM} {L : LM} {r : Option Value} {I2 : IM} {L2 : LM} (hlen : Nat.ble (lg_sl av).length 2 = true) (hz : (some .int) = some FieldType.boolean → ∀ x, r = some (.int x) → x = 0 ∨ x = 1) (body : ∀ V : Nat → LV → List Value → IM → LM → Prop, Ru l kdR 12 RX8 cX8_gradeOf rmX8_gradeOf FX8 tX8_gradeOf V (fun st J K => st = r.toList ∧ J = I2 ∧ K = L2) → V 0 (lv_args 0 av) [] I L) : KX8_gradeOf l av I L r I2 L2 := cr_of (y := yX8_gradeOf) (cc := cX8_gradeOf) (nL := 2) (ret := (some .int)) (rm := rmX8_gradeOf) (own := RX8) (F := FX8) (P := tX8_gradeOf) (by decide +kernel) rfl kdR_ok fokX8 okX8_gradeOf (by decide +kernel) (by decide +kernel) hlen hz body
abbrev rmX8_greatest : Room := { frames := 1, cells := 0, slots := 0, locals := 22 }
abbrev KX8_greatest (l : Launch) (av : List Value) (I : IM) (L : LM) (r : Option Value) (I2 : IM) (L2 : LM) : Prop := CR l kdR 12 yX8_greatest cX8_greatest 5 (some .int) rmX8_greatest av I L r I2 L2
theorem wX8_greatest (l : Launch) {av : List Value} {I : IM} {L : LM} {r : Option Value} {I2 : IM} {L2 : LM} (hlen : Nat.ble (lg_sl av).length 5 = true) (hz : (some .int) = some FieldType.boolean → ∀ x, r = some (.int x) → x = 0 ∨ x = 1) (body : ∀ V : Nat → LV → List Value → IM → LM → Prop, Ru l kdR 12 RX8 cX8_greatest rmX8_greatest FX8 tX8_greatest V (fun st J K => st = r.toList ∧ J = I2 ∧ K = L2) → V 0 (lv_args 0 av) [] I L) : KX8_greatest l av I L r I2 L2 := cr_of (y := yX8_greatest) (cc := cX8_greatest) (nL := 5) (ret := (some .int)) (rm := rmX8_greatest) (own := RX8) (F := FX8) (P := tX8_greatest) (by decide +kernel) rfl kdR_ok fokX8 okX8_greatest (by decide +kernel) (by decide +kernel) hlen hz body
abbrev rmX8_lead : Room := { frames := 1, cells := 0, slots := 0, locals := 22 }
abbrev KX8_lead (l : Launch) (av : List Value) (I : IM) (L : LM) (r : Option Value) (I2 : IM) (L2 : LM) : Prop := CR l kdR 12 yX8_lead cX8_lead 3 (some .int) rmX8_lead av I L r I2 L2
theorem wX8_lead (l : Launch) {av : List Value} {I : IM} {L : LM} {r : Option Value} {I2 : IM} {L2 : LM} (hlen : Nat.ble (lg_sl av).length 3 = true) (hz : (some .int) = some FieldType.boolean → ∀ x, r = some (.int x) → x = 0 ∨ x = 1) (body : ∀ V : Nat → LV → List Value → IM → LM → Prop, Ru l kdR 12 RX8 cX8_lead rmX8_lead FX8 tX8_lead V (fun st J K => st = r.toList ∧ J = I2 ∧ K = L2) → V 0 (lv_args 0 av) [] I L) : KX8_lead l av I L r I2 L2 := cr_of (y := yX8_lead) (cc := cX8_lead) (nL := 3) (ret := (some .int)) (rm := rmX8_lead) (own := RX8) (F := FX8) (P := tX8_lead) (by decide +kernel) rfl kdR_ok fokX8 okX8_lead (by decide +kernel) (by decide +kernel) hlen hz body
abbrev rmX8_directions : Room := { frames := 1, cells := 0, slots := 0, locals := 22 }
abbrev KX8_directions (l : Launch) (av : List Value) (I : IM) (L : LM) (r : Option Value) (I2 : IM) (L2 : LM) : Prop := CR l kdR 12 yX8_directions cX8_directions 4 (some .int) rmX8_directions av I L r I2 L2
theorem wX8_directions (l : Launch) {av : List Value} {I : IM} {L : LM} {r : Option Value} {I2 : IM} {L2 : LM} (hlen : Nat.ble (lg_sl av).length 4 = true) (hz : (some .int) = some FieldType.boolean → ∀ x, r = some (.int x) → x = 0 ∨ x = 1) (body : ∀ V : Nat → LV → List Value → IM → LM → Prop, Ru l kdR 12 RX8 cX8_directions rmX8_directions FX8 tX8_directions V (fun st J K => st = r.toList ∧ J = I2 ∧ K = L2) → V 0 (lv_args 0 av) [] I L) : KX8_directions l av I L r I2 L2 := cr_of (y := yX8_directions) (cc := cX8_directions) (nL := 4) (ret := (some .int)) (rm := rmX8_directions) (own := RX8) (F := FX8) (P := tX8_directions) (by decide +kernel) rfl kdR_ok fokX8 okX8_directions (by decide +kernel) (by decide +kernel) hlen hz body
abbrev rmX8_formOf : Room := { frames := 3, cells := 0, slots := 0, locals := 66 }
abbrev KX8_formOf (l : Launch) (av : List Value) (I : IM) (L : LM) (r : Option Value) (I2 : IM) (L2 : LM) : Prop := CR l kdR 12 yX8_formOf cX8_formOf 3 (some .int) rmX8_formOf av I L r I2 L2
theorem wX8_formOf (l : Launch) {av : List Value} {I : IM} {L : LM} {r : Option Value} {I2 : IM} {L2 : LM} (hlen : Nat.ble (lg_sl av).length 3 = true) (hz : (some .int) = some FieldType.boolean → ∀ x, r = some (.int x) → x = 0 ∨ x = 1) (body : ∀ V : Nat → LV → List Value → IM → LM → Prop, Ru l kdR 12 RX8 cX8_formOf rmX8_formOf FX8 tX8_formOf V (fun st J K => st = r.toList ∧ J = I2 ∧ K = L2) → V 0 (lv_args 0 av) [] I L) : KX8_formOf l av I L r I2 L2 := cr_of (y := yX8_formOf) (cc := cX8_formOf) (nL := 3) (ret := (some .int)) (rm := rmX8_formOf) (own := RX8) (F := FX8) (P := tX8_formOf) (by decide +kernel) rfl kdR_ok fokX8 okX8_formOf (by decide +kernel) (by decide +kernel) hlen hz body
abbrev rmX8_form : Room := { frames := 4, cells := 0, slots := 0, locals := 88 }
abbrev KX8_form (l : Launch) (av : List Value) (I : IM) (L : LM) (r : Option Value) (I2 : IM) (L2 : LM) : Prop := CR l kdR 12 yX8_form cX8_form 3 (some .int) rmX8_form av I L r I2 L2
theorem wX8_form (l : Launch) {av : List Value} {I : IM} {L : LM} {r : Option Value} {I2 : IM} {L2 : LM} (hlen : Nat.ble (lg_sl av).length 3 = true) (hz : (some .int) = some FieldType.boolean → ∀ x, r = some (.int x) → x = 0 ∨ x = 1) (body : ∀ V : Nat → LV → List Value → IM → LM → Prop, Ru l kdR 12 RX8 cX8_form rmX8_form FX8 tX8_form V (fun st J K => st = r.toList ∧ J = I2 ∧ K = L2) → V 0 (lv_args 0 av) [] I L) : KX8_form l av I L r I2 L2 := cr_of (y := yX8_form) (cc := cX8_form) (nL := 3) (ret := (some .int)) (rm := rmX8_form) (own := RX8) (F := FX8) (P := tX8_form) (by decide +kernel) rfl kdR_ok fokX8 okX8_form (by decide +kernel) (by decide +kernel) hlen hz body
abbrev rmX8_innerOf : Room := { frames := 1, cells := 0, slots := 0, locals := 23 }
abbrev KX8_innerOf (l : Launch) (av : List Value) (I : IM) (L : LM) (r : Option Value) (I2 : IM) (L2 : LM) : Prop := CR l kdR 12 yX8_innerOf cX8_innerOf 6 (some .long) rmX8_innerOf av I L r I2 L2
theorem wX8_innerOf (l : Launch) {av : List Value} {I : IM} {L : LM} {r : Option Value} {I2 : IM} {L2 : LM} (hlen : Nat.ble (lg_sl av).length 6 = true) (hz : (some .long) = some FieldType.boolean → ∀ x, r = some (.int x) → x = 0 ∨ x = 1) (body : ∀ V : Nat → LV → List Value → IM → LM → Prop, Ru l kdR 12 RX8 cX8_innerOf rmX8_innerOf FX8 tX8_innerOf V (fun st J K => st = r.toList ∧ J = I2 ∧ K = L2) → V 0 (lv_args 0 av) [] I L) : KX8_innerOf l av I L r I2 L2 := cr_of (y := yX8_innerOf) (cc := cX8_innerOf) (nL := 6) (ret := (some .long)) (rm := rmX8_innerOf) (own := RX8) (F := FX8) (P := tX8_innerOf) (by decide +kernel) rfl kdR_ok fokX8 okX8_innerOf (by decide +kernel) (by decide +kernel) hlen hz body
abbrev rmX8_inner : Room := { frames := 2, cells := 0, slots := 0, locals := 48 }
abbrev KX8_inner (l : Launch) (av : List Value) (I : IM) (L : LM) (r : Option Value) (I2 : IM) (L2 : LM) : Prop := CR l kdR 12 yX8_inner cX8_inner 3 (some .long) rmX8_inner av I L r I2 L2
theorem wX8_inner (l : Launch) {av : List Value} {I : IM} {L : LM} {r : Option Value} {I2 : IM} {L2 : LM} (hlen : Nat.ble (lg_sl av).length 3 = true) (hz : (some .long) = some FieldType.boolean → ∀ x, r = some (.int x) → x = 0 ∨ x = 1) (body : ∀ V : Nat → LV → List Value → IM → LM → Prop, Ru l kdR 12 RX8 cX8_inner rmX8_inner FX8 tX8_inner V (fun st J K => st = r.toList ∧ J = I2 ∧ K = L2) → V 0 (lv_args 0 av) [] I L) : KX8_inner l av I L r I2 L2 := cr_of (y := yX8_inner) (cc := cX8_inner) (nL := 3) (ret := (some .long)) (rm := rmX8_inner) (own := RX8) (F := FX8) (P := tX8_inner) (by decide +kernel) rfl kdR_ok fokX8 okX8_inner (by decide +kernel) (by decide +kernel) hlen hz body
abbrev rmX8_vector : Room := { frames := 3, cells := 0, slots := 0, locals := 66 }
abbrev KX8_vector (l : Launch) (av : List Value) (I : IM) (L : LM) (r : Option Value) (I2 : IM) (L2 : LM) : Prop := CR l kdR 12 yX8_vector cX8_vector 4 (some .long) rmX8_vector av I L r I2 L2
theorem wX8_vector (l : Launch) {av : List Value} {I : IM} {L : LM} {r : Option Value} {I2 : IM} {L2 : LM} (hlen : Nat.ble (lg_sl av).length 4 = true) (hz : (some .long) = some FieldType.boolean → ∀ x, r = some (.int x) → x = 0 ∨ x = 1) (body : ∀ V : Nat → LV → List Value → IM → LM → Prop, Ru l kdR 12 RX8 cX8_vector rmX8_vector FX8 tX8_vector V (fun st J K => st = r.toList ∧ J = I2 ∧ K = L2) → V 0 (lv_args 0 av) [] I L) : KX8_vector l av I L r I2 L2 := cr_of (y := yX8_vector) (cc := cX8_vector) (nL := 4) (ret := (some .long)) (rm := rmX8_vector) (own := RX8) (F := FX8) (P := tX8_vector) (by decide +kernel) rfl kdR_ok fokX8 okX8_vector (by decide +kernel) (by decide +kernel) hlen hz body
abbrev rmX8_isResultEmpty : Room := { frames := 1, cells := 0, slots := 0, locals := 20 }
abbrev KX8_isResultEmpty (l : Launch) (av : List Value) (I : IM) (L : LM) (r : Option Value) (I2 : IM) (L2 : LM) : Prop := CR l kdR 12 yX8_isResultEmpty cX8_isResultEmpty 2 (some .boolean) rmX8_isResultEmpty av I L r I2 L2
theorem wX8_isResultEmpty (l : Launch) {av : List Value} {I : IM} {L : LM} {r : Option Value} {I2 : IM} {L2 : LM} (hlen : Nat.ble (lg_sl av).length 2 = true) (hz : (some .boolean) = some FieldType.boolean → ∀ x, r = some (.int x) → x = 0 ∨ x = 1) (body : ∀ V : Nat → LV → List Value → IM → LM → Prop, Ru l kdR 12 RX8 cX8_isResultEmpty rmX8_isResultEmpty FX8 tX8_isResultEmpty V (fun st J K => st = r.toList ∧ J = I2 ∧ K = L2) → V 0 (lv_args 0 av) [] I L) : KX8_isResultEmpty l av I L r I2 L2 := cr_of (y := yX8_isResultEmpty) (cc := cX8_isResultEmpty) (nL := 2) (ret := (some .boolean)) (rm := rmX8_isResultEmpty) (own := RX8) (F := FX8) (P := tX8_isResultEmpty) (by decide +kernel) rfl kdR_ok fokX8 okX8_isResultEmpty (by decide +kernel) (by decide +kernel) hlen hz body
abbrev rmX8_isPure : Room := { frames := 4, cells := 0, slots := 0, locals := 90 }
abbrev KX8_isPure (l : Launch) (av : List Value) (I : IM) (L : LM) (r : Option Value) (I2 : IM) (L2 : LM) : Prop := CR l kdR 12 yX8_isPure cX8_isPure 6 (some .boolean) rmX8_isPure av I L r I2 L2
theorem wX8_isPure (l : Launch) {av : List Value} {I : IM} {L : LM} {r : Option Value} {I2 : IM} {L2 : LM} (hlen : Nat.ble (lg_sl av).length 6 = true) (hz : (some .boolean) = some FieldType.boolean → ∀ x, r = some (.int x) → x = 0 ∨ x = 1) (body : ∀ V : Nat → LV → List Value → IM → LM → Prop, Ru l kdR 12 RX8 cX8_isPure rmX8_isPure FX8 tX8_isPure V (fun st J K => st = r.toList ∧ J = I2 ∧ K = L2) → V 0 (lv_args 0 av) [] I L) : KX8_isPure l av I L r I2 L2 := cr_of (y := yX8_isPure) (cc := cX8_isPure) (nL := 6) (ret := (some .boolean)) (rm := rmX8_isPure) (own := RX8) (F := FX8) (P := tX8_isPure) (by decide +kernel) rfl kdR_ok fokX8 okX8_isPure (by decide +kernel) (by decide +kernel) hlen hz body
abbrev rmX8_layLines : Room := { frames := 3, cells := 0, slots := 0, locals := 66 }
abbrev KX8_layLines (l : Launch) (av : List Value) (I : IM) (L : LM) (r : Option Value) (I2 : IM) (L2 : LM) : Prop := CR l kdR 12 yX8_layLines cX8_layLines 6 none rmX8_layLines av I L r I2 L2
theorem wX8_layLines (l : Launch) {av : List Value} {I : IM} {L : LM} {r : Option Value} {I2 : IM} {L2 : LM} (hlen : Nat.ble (lg_sl av).length 6 = true) (hz : none = some FieldType.boolean → ∀ x, r = some (.int x) → x = 0 ∨ x = 1) (body : ∀ V : Nat → LV → List Value → IM → LM → Prop, Ru l kdR 12 RX8 cX8_layLines rmX8_layLines FX8 tX8_layLines V (fun st J K => st = r.toList ∧ J = I2 ∧ K = L2) → V 0 (lv_args 0 av) [] I L) : KX8_layLines l av I L r I2 L2 := cr_of (y := yX8_layLines) (cc := cX8_layLines) (nL := 6) (ret := none) (rm := rmX8_layLines) (own := RX8) (F := FX8) (P := tX8_layLines) (by decide +kernel) rfl kdR_ok fokX8 okX8_layLines (by decide +kernel) (by decide +kernel) hlen hz body
abbrev rmX8_exchange : Room := { frames := 0, cells := 0, slots := 0, locals := 0 }
abbrev KX8_exchange (l : Launch) (av : List Value) (I : IM) (L : LM) (r : Option Value) (I2 : IM) (L2 : LM) : Prop := CR l kdR 12 yX8_exchange cX8_exchange 6 none rmX8_exchange av I L r I2 L2
theorem wX8_exchange (l : Launch) {av : List Value} {I : IM} {L : LM} {r : Option Value} {I2 : IM} {L2 : LM} (hlen : Nat.ble (lg_sl av).length 6 = true) (hz : none = some FieldType.boolean → ∀ x, r = some (.int x) → x = 0 ∨ x = 1) (body : ∀ V : Nat → LV → List Value → IM → LM → Prop, Ru l kdR 12 RX8 cX8_exchange rmX8_exchange FX8 tX8_exchange V (fun st J K => st = r.toList ∧ J = I2 ∧ K = L2) → V 0 (lv_args 0 av) [] I L) : KX8_exchange l av I L r I2 L2 := cr_of (y := yX8_exchange) (cc := cX8_exchange) (nL := 6) (ret := none) (rm := rmX8_exchange) (own := RX8) (F := FX8) (P := tX8_exchange) (by decide +kernel) rfl kdR_ok fokX8 okX8_exchange (by decide +kernel) (by decide +kernel) hlen hz body
abbrev rmX8_clearColumn : Room := { frames := 0, cells := 0, slots := 0, locals := 0 }
abbrev KX8_clearColumn (l : Launch) (av : List Value) (I : IM) (L : LM) (r : Option Value) (I2 : IM) (L2 : LM) : Prop := CR l kdR 12 yX8_clearColumn cX8_clearColumn 10 none rmX8_clearColumn av I L r I2 L2
theorem wX8_clearColumn (l : Launch) {av : List Value} {I : IM} {L : LM} {r : Option Value} {I2 : IM} {L2 : LM} (hlen : Nat.ble (lg_sl av).length 10 = true) (hz : none = some FieldType.boolean → ∀ x, r = some (.int x) → x = 0 ∨ x = 1) (body : ∀ V : Nat → LV → List Value → IM → LM → Prop, Ru l kdR 12 RX8 cX8_clearColumn rmX8_clearColumn FX8 tX8_clearColumn V (fun st J K => st = r.toList ∧ J = I2 ∧ K = L2) → V 0 (lv_args 0 av) [] I L) : KX8_clearColumn l av I L r I2 L2 := cr_of (y := yX8_clearColumn) (cc := cX8_clearColumn) (nL := 10) (ret := none) (rm := rmX8_clearColumn) (own := RX8) (F := FX8) (P := tX8_clearColumn) (by decide +kernel) rfl kdR_ok fokX8 okX8_clearColumn (by decide +kernel) (by decide +kernel) hlen hz body
abbrev rmX8_solve : Room := { frames := 4, cells := 0, slots := 0, locals := 91 }
abbrev KX8_solve (l : Launch) (av : List Value) (I : IM) (L : LM) (r : Option Value) (I2 : IM) (L2 : LM) : Prop := CR l kdR 12 yX8_solve cX8_solve 4 none rmX8_solve av I L r I2 L2
theorem wX8_solve (l : Launch) {av : List Value} {I : IM} {L : LM} {r : Option Value} {I2 : IM} {L2 : LM} (hlen : Nat.ble (lg_sl av).length 4 = true) (hz : none = some FieldType.boolean → ∀ x, r = some (.int x) → x = 0 ∨ x = 1) (body : ∀ V : Nat → LV → List Value → IM → LM → Prop, Ru l kdR 12 RX8 cX8_solve rmX8_solve FX8 tX8_solve V (fun st J K => st = r.toList ∧ J = I2 ∧ K = L2) → V 0 (lv_args 0 av) [] I L) : KX8_solve l av I L r I2 L2 := cr_of (y := yX8_solve) (cc := cX8_solve) (nL := 4) (ret := none) (rm := rmX8_solve) (own := RX8) (F := FX8) (P := tX8_solve) (by decide +kernel) rfl kdR_ok fokX8 okX8_solve (by decide +kernel) (by decide +kernel) hlen hz body
abbrev rmX8_isAnnihilatorTold : Room := { frames := 2, cells := 0, slots := 0, locals := 46 }
abbrev KX8_isAnnihilatorTold (l : Launch) (av : List Value) (I : IM) (L : LM) (r : Option Value) (I2 : IM) (L2 : LM) : Prop := CR l kdR 12 yX8_isAnnihilatorTold cX8_isAnnihilatorTold 2 (some .boolean) rmX8_isAnnihilatorTold av I L r I2 L2
theorem wX8_isAnnihilatorTold (l : Launch) {av : List Value} {I : IM} {L : LM} {r : Option Value} {I2 : IM} {L2 : LM} (hlen : Nat.ble (lg_sl av).length 2 = true) (hz : (some .boolean) = some FieldType.boolean → ∀ x, r = some (.int x) → x = 0 ∨ x = 1) (body : ∀ V : Nat → LV → List Value → IM → LM → Prop, Ru l kdR 12 RX8 cX8_isAnnihilatorTold rmX8_isAnnihilatorTold FX8 tX8_isAnnihilatorTold V (fun st J K => st = r.toList ∧ J = I2 ∧ K = L2) → V 0 (lv_args 0 av) [] I L) : KX8_isAnnihilatorTold l av I L r I2 L2 := cr_of (y := yX8_isAnnihilatorTold) (cc := cX8_isAnnihilatorTold) (nL := 2) (ret := (some .boolean)) (rm := rmX8_isAnnihilatorTold) (own := RX8) (F := FX8) (P := tX8_isAnnihilatorTold) (by decide +kernel) rfl kdR_ok fokX8 okX8_isAnnihilatorTold (by decide +kernel) (by decide +kernel) hlen hz body
abbrev rmX8_annihilatorOf : Room := { frames := 5, cells := 0, slots := 0, locals := 114 }
abbrev KX8_annihilatorOf (l : Launch) (av : List Value) (I : IM) (L : LM) (r : Option Value) (I2 : IM) (L2 : LM) : Prop := CR l kdR 12 yX8_annihilatorOf cX8_annihilatorOf 2 (some .int) rmX8_annihilatorOf av I L r I2 L2
theorem wX8_annihilatorOf (l : Launch) {av : List Value} {I : IM} {L : LM} {r : Option Value} {I2 : IM} {L2 : LM} (hlen : Nat.ble (lg_sl av).length 2 = true) (hz : (some .int) = some FieldType.boolean → ∀ x, r = some (.int x) → x = 0 ∨ x = 1) (body : ∀ V : Nat → LV → List Value → IM → LM → Prop, Ru l kdR 12 RX8 cX8_annihilatorOf rmX8_annihilatorOf FX8 tX8_annihilatorOf V (fun st J K => st = r.toList ∧ J = I2 ∧ K = L2) → V 0 (lv_args 0 av) [] I L) : KX8_annihilatorOf l av I L r I2 L2 := cr_of (y := yX8_annihilatorOf) (cc := cX8_annihilatorOf) (nL := 2) (ret := (some .int)) (rm := rmX8_annihilatorOf) (own := RX8) (F := FX8) (P := tX8_annihilatorOf) (by decide +kernel) rfl kdR_ok fokX8 okX8_annihilatorOf (by decide +kernel) (by decide +kernel) hlen hz body
abbrev rmX8_divisor : Room := { frames := 0, cells := 0, slots := 0, locals := 0 }
abbrev KX8_divisor (l : Launch) (av : List Value) (I : IM) (L : LM) (r : Option Value) (I2 : IM) (L2 : LM) : Prop := CR l kdR 12 yX8_divisor cX8_divisor 10 (some .long) rmX8_divisor av I L r I2 L2
theorem wX8_divisor (l : Launch) {av : List Value} {I : IM} {L : LM} {r : Option Value} {I2 : IM} {L2 : LM} (hlen : Nat.ble (lg_sl av).length 10 = true) (hz : (some .long) = some FieldType.boolean → ∀ x, r = some (.int x) → x = 0 ∨ x = 1) (body : ∀ V : Nat → LV → List Value → IM → LM → Prop, Ru l kdR 12 RX8 cX8_divisor rmX8_divisor FX8 tX8_divisor V (fun st J K => st = r.toList ∧ J = I2 ∧ K = L2) → V 0 (lv_args 0 av) [] I L) : KX8_divisor l av I L r I2 L2 := cr_of (y := yX8_divisor) (cc := cX8_divisor) (nL := 10) (ret := (some .long)) (rm := rmX8_divisor) (own := RX8) (F := FX8) (P := tX8_divisor) (by decide +kernel) rfl kdR_ok fokX8 okX8_divisor (by decide +kernel) (by decide +kernel) hlen hz body
abbrev rmX8_headOf : Room := { frames := 0, cells := 0, slots := 0, locals := 0 }
abbrev KX8_headOf (l : Launch) (av : List Value) (I : IM) (L : LM) (r : Option Value) (I2 : IM) (L2 : LM) : Prop := CR l kdR 12 yX8_headOf cX8_headOf 4 (some .int) rmX8_headOf av I L r I2 L2
theorem wX8_headOf (l : Launch) {av : List Value} {I : IM} {L : LM} {r : Option Value} {I2 : IM} {L2 : LM} (hlen : Nat.ble (lg_sl av).length 4 = true) (hz : (some .int) = some FieldType.boolean → ∀ x, r = some (.int x) → x = 0 ∨ x = 1) (body : ∀ V : Nat → LV → List Value → IM → LM → Prop, Ru l kdR 12 RX8 cX8_headOf rmX8_headOf FX8 tX8_headOf V (fun st J K => st = r.toList ∧ J = I2 ∧ K = L2) → V 0 (lv_args 0 av) [] I L) : KX8_headOf l av I L r I2 L2 := cr_of (y := yX8_headOf) (cc := cX8_headOf) (nL := 4) (ret := (some .int)) (rm := rmX8_headOf) (own := RX8) (F := FX8) (P := tX8_headOf) (by decide +kernel) rfl kdR_ok fokX8 okX8_headOf (by decide +kernel) (by decide +kernel) hlen hz body
abbrev rmX8_rawOf : Room := { frames := 0, cells := 0, slots := 0, locals := 0 }
abbrev KX8_rawOf (l : Launch) (av : List Value) (I : IM) (L : LM) (r : Option Value) (I2 : IM) (L2 : LM) : Prop := CR l kdR 12 yX8_rawOf cX8_rawOf 3 (some .long) rmX8_rawOf av I L r I2 L2
theorem wX8_rawOf (l : Launch) {av : List Value} {I : IM} {L : LM} {r : Option Value} {I2 : IM} {L2 : LM} (hlen : Nat.ble (lg_sl av).length 3 = true) (hz : (some .long) = some FieldType.boolean → ∀ x, r = some (.int x) → x = 0 ∨ x = 1) (body : ∀ V : Nat → LV → List Value → IM → LM → Prop, Ru l kdR 12 RX8 cX8_rawOf rmX8_rawOf FX8 tX8_rawOf V (fun st J K => st = r.toList ∧ J = I2 ∧ K = L2) → V 0 (lv_args 0 av) [] I L) : KX8_rawOf l av I L r I2 L2 := cr_of (y := yX8_rawOf) (cc := cX8_rawOf) (nL := 3) (ret := (some .long)) (rm := rmX8_rawOf) (own := RX8) (F := FX8) (P := tX8_rawOf) (by decide +kernel) rfl kdR_ok fokX8 okX8_rawOf (by decide +kernel) (by decide +kernel) hlen hz body
abbrev rmX8_basisOf : Room := { frames := 1, cells := 0, slots := 0, locals := 29 }
abbrev KX8_basisOf (l : Launch) (av : List Value) (I : IM) (L : LM) (r : Option Value) (I2 : IM) (L2 : LM) : Prop := CR l kdR 12 yX8_basisOf cX8_basisOf 7 (some .int) rmX8_basisOf av I L r I2 L2
theorem wX8_basisOf (l : Launch) {av : List Value} {I : IM} {L : LM} {r : Option Value} {I2 : IM} {L2 : LM} (hlen : Nat.ble (lg_sl av).length 7 = true) (hz : (some .int) = some FieldType.boolean → ∀ x, r = some (.int x) → x = 0 ∨ x = 1) (body : ∀ V : Nat → LV → List Value → IM → LM → Prop, Ru l kdR 12 RX8 cX8_basisOf rmX8_basisOf FX8 tX8_basisOf V (fun st J K => st = r.toList ∧ J = I2 ∧ K = L2) → V 0 (lv_args 0 av) [] I L) : KX8_basisOf l av I L r I2 L2 := cr_of (y := yX8_basisOf) (cc := cX8_basisOf) (nL := 7) (ret := (some .int)) (rm := rmX8_basisOf) (own := RX8) (F := FX8) (P := tX8_basisOf) (by decide +kernel) rfl kdR_ok fokX8 okX8_basisOf (by decide +kernel) (by decide +kernel) hlen hz body
abbrev rmX8_decomposableOf : Room := { frames := 6, cells := 0, slots := 0, locals := 135 }
abbrev KX8_decomposableOf (l : Launch) (av : List Value) (I : IM) (L : LM) (r : Option Value) (I2 : IM) (L2 : LM) : Prop := CR l kdR 12 yX8_decomposableOf cX8_decomposableOf 5 (some .int) rmX8_decomposableOf av I L r I2 L2
theorem wX8_decomposableOf (l : Launch) {av : List Value} {I : IM} {L : LM} {r : Option Value} {I2 : IM} {L2 : LM} (hlen : Nat.ble (lg_sl av).length 5 = true) (hz : (some .int) = some FieldType.boolean → ∀ x, r = some (.int x) → x = 0 ∨ x = 1) (body : ∀ V : Nat → LV → List Value → IM → LM → Prop, Ru l kdR 12 RX8 cX8_decomposableOf rmX8_decomposableOf FX8 tX8_decomposableOf V (fun st J K => st = r.toList ∧ J = I2 ∧ K = L2) → V 0 (lv_args 0 av) [] I L) : KX8_decomposableOf l av I L r I2 L2 := cr_of (y := yX8_decomposableOf) (cc := cX8_decomposableOf) (nL := 5) (ret := (some .int)) (rm := rmX8_decomposableOf) (own := RX8) (F := FX8) (P := tX8_decomposableOf) (by decide +kernel) rfl kdR_ok fokX8 okX8_decomposableOf (by decide +kernel) (by decide +kernel) hlen hz body
abbrev rmX8_decomposable : Room := { frames := 7, cells := 0, slots := 0, locals := 159 }
abbrev KX8_decomposable (l : Launch) (av : List Value) (I : IM) (L : LM) (r : Option Value) (I2 : IM) (L2 : LM) : Prop := CR l kdR 12 yX8_decomposable cX8_decomposable 3 (some .int) rmX8_decomposable av I L r I2 L2
theorem wX8_decomposable (l : Launch) {av : List Value} {I : IM} {L : LM} {r : Option Value} {I2 : IM} {L2 : LM} (hlen : Nat.ble (lg_sl av).length 3 = true) (hz : (some .int) = some FieldType.boolean → ∀ x, r = some (.int x) → x = 0 ∨ x = 1) (body : ∀ V : Nat → LV → List Value → IM → LM → Prop, Ru l kdR 12 RX8 cX8_decomposable rmX8_decomposable FX8 tX8_decomposable V (fun st J K => st = r.toList ∧ J = I2 ∧ K = L2) → V 0 (lv_args 0 av) [] I L) : KX8_decomposable l av I L r I2 L2 := cr_of (y := yX8_decomposable) (cc := cX8_decomposable) (nL := 3) (ret := (some .int)) (rm := rmX8_decomposable) (own := RX8) (F := FX8) (P := tX8_decomposable) (by decide +kernel) rfl kdR_ok fokX8 okX8_decomposable (by decide +kernel) (by decide +kernel) hlen hz body
abbrev rmX8_factors : Room := { frames := 5, cells := 0, slots := 0, locals := 115 }
abbrev KX8_factors (l : Launch) (av : List Value) (I : IM) (L : LM) (r : Option Value) (I2 : IM) (L2 : LM) : Prop := CR l kdR 12 yX8_factors cX8_factors 3 (some .int) rmX8_factors av I L r I2 L2
theorem wX8_factors (l : Launch) {av : List Value} {I : IM} {L : LM} {r : Option Value} {I2 : IM} {L2 : LM} (hlen : Nat.ble (lg_sl av).length 3 = true) (hz : (some .int) = some FieldType.boolean → ∀ x, r = some (.int x) → x = 0 ∨ x = 1) (body : ∀ V : Nat → LV → List Value → IM → LM → Prop, Ru l kdR 12 RX8 cX8_factors rmX8_factors FX8 tX8_factors V (fun st J K => st = r.toList ∧ J = I2 ∧ K = L2) → V 0 (lv_args 0 av) [] I L) : KX8_factors l av I L r I2 L2 := cr_of (y := yX8_factors) (cc := cX8_factors) (nL := 3) (ret := (some .int)) (rm := rmX8_factors) (own := RX8) (F := FX8) (P := tX8_factors) (by decide +kernel) rfl kdR_ok fokX8 okX8_factors (by decide +kernel) (by decide +kernel) hlen hz body
abbrev rmX8_factorOf : Room := { frames := 4, cells := 0, slots := 0, locals := 89 }
abbrev KX8_factorOf (l : Launch) (av : List Value) (I : IM) (L : LM) (r : Option Value) (I2 : IM) (L2 : LM) : Prop := CR l kdR 12 yX8_factorOf cX8_factorOf 10 (some .int) rmX8_factorOf av I L r I2 L2
theorem wX8_factorOf (l : Launch) {av : List Value} {I : IM} {L : LM} {r : Option Value} {I2 : IM} {L2 : LM} (hlen : Nat.ble (lg_sl av).length 10 = true) (hz : (some .int) = some FieldType.boolean → ∀ x, r = some (.int x) → x = 0 ∨ x = 1) (body : ∀ V : Nat → LV → List Value → IM → LM → Prop, Ru l kdR 12 RX8 cX8_factorOf rmX8_factorOf FX8 tX8_factorOf V (fun st J K => st = r.toList ∧ J = I2 ∧ K = L2) → V 0 (lv_args 0 av) [] I L) : KX8_factorOf l av I L r I2 L2 := cr_of (y := yX8_factorOf) (cc := cX8_factorOf) (nL := 10) (ret := (some .int)) (rm := rmX8_factorOf) (own := RX8) (F := FX8) (P := tX8_factorOf) (by decide +kernel) rfl kdR_ok fokX8 okX8_factorOf (by decide +kernel) (by decide +kernel) hlen hz body
abbrev rmX8_factor : Room := { frames := 6, cells := 0, slots := 0, locals := 137 }
abbrev KX8_factor (l : Launch) (av : List Value) (I : IM) (L : LM) (r : Option Value) (I2 : IM) (L2 : LM) : Prop := CR l kdR 12 yX8_factor cX8_factor 4 (some .int) rmX8_factor av I L r I2 L2
theorem wX8_factor (l : Launch) {av : List Value} {I : IM} {L : LM} {r : Option Value} {I2 : IM} {L2 : LM} (hlen : Nat.ble (lg_sl av).length 4 = true) (hz : (some .int) = some FieldType.boolean → ∀ x, r = some (.int x) → x = 0 ∨ x = 1) (body : ∀ V : Nat → LV → List Value → IM → LM → Prop, Ru l kdR 12 RX8 cX8_factor rmX8_factor FX8 tX8_factor V (fun st J K => st = r.toList ∧ J = I2 ∧ K = L2) → V 0 (lv_args 0 av) [] I L) : KX8_factor l av I L r I2 L2 := cr_of (y := yX8_factor) (cc := cX8_factor) (nL := 4) (ret := (some .int)) (rm := rmX8_factor) (own := RX8) (F := FX8) (P := tX8_factor) (by decide +kernel) rfl kdR_ok fokX8 okX8_factor (by decide +kernel) (by decide +kernel) hlen hz body
abbrev rmX8_annihilator : Room := { frames := 6, cells := 0, slots := 0, locals := 135 }
abbrev KX8_annihilator (l : Launch) (av : List Value) (I : IM) (L : LM) (r : Option Value) (I2 : IM) (L2 : LM) : Prop := CR l kdR 12 yX8_annihilator cX8_annihilator 2 (some .int) rmX8_annihilator av I L r I2 L2
theorem wX8_annihilator (l : Launch) {av : List Value} {I : IM} {L : LM} {r : Option Value} {I2 : IM} {L2 : LM} (hlen : Nat.ble (lg_sl av).length 2 = true) (hz : (some .int) = some FieldType.boolean → ∀ x, r = some (.int x) → x = 0 ∨ x = 1) (body : ∀ V : Nat → LV → List Value → IM → LM → Prop, Ru l kdR 12 RX8 cX8_annihilator rmX8_annihilator FX8 tX8_annihilator V (fun st J K => st = r.toList ∧ J = I2 ∧ K = L2) → V 0 (lv_args 0 av) [] I L) : KX8_annihilator l av I L r I2 L2 := cr_of (y := yX8_annihilator) (cc := cX8_annihilator) (nL := 2) (ret := (some .int)) (rm := rmX8_annihilator) (own := RX8) (F := FX8) (P := tX8_annihilator) (by decide +kernel) rfl kdR_ok fokX8 okX8_annihilator (by decide +kernel) (by decide +kernel) hlen hz body
abbrev rmX8_basis : Room := { frames := 6, cells := 0, slots := 0, locals := 135 }
abbrev KX8_basis (l : Launch) (av : List Value) (I : IM) (L : LM) (r : Option Value) (I2 : IM) (L2 : LM) : Prop := CR l kdR 12 yX8_basis cX8_basis 4 (some .int) rmX8_basis av I L r I2 L2
theorem wX8_basis (l : Launch) {av : List Value} {I : IM} {L : LM} {r : Option Value} {I2 : IM} {L2 : LM} (hlen : Nat.ble (lg_sl av).length 4 = true) (hz : (some .int) = some FieldType.boolean → ∀ x, r = some (.int x) → x = 0 ∨ x = 1) (body : ∀ V : Nat → LV → List Value → IM → LM → Prop, Ru l kdR 12 RX8 cX8_basis rmX8_basis FX8 tX8_basis V (fun st J K => st = r.toList ∧ J = I2 ∧ K = L2) → V 0 (lv_args 0 av) [] I L) : KX8_basis l av I L r I2 L2 := cr_of (y := yX8_basis) (cc := cX8_basis) (nL := 4) (ret := (some .int)) (rm := rmX8_basis) (own := RX8) (F := FX8) (P := tX8_basis) (by decide +kernel) rfl kdR_ok fokX8 okX8_basis (by decide +kernel) (by decide +kernel) hlen hz body
abbrev rmX8_refusedOf : Room := { frames := 7, cells := 0, slots := 0, locals := 160 }
abbrev KX8_refusedOf (l : Launch) (av : List Value) (I : IM) (L : LM) (r : Option Value) (I2 : IM) (L2 : LM) : Prop := CR l kdR 12 yX8_refusedOf cX8_refusedOf 4 (some .int) rmX8_refusedOf av I L r I2 L2
theorem wX8_refusedOf (l : Launch) {av : List Value} {I : IM} {L : LM} {r : Option Value} {I2 : IM} {L2 : LM} (hlen : Nat.ble (lg_sl av).length 4 = true) (hz : (some .int) = some FieldType.boolean → ∀ x, r = some (.int x) → x = 0 ∨ x = 1) (body : ∀ V : Nat → LV → List Value → IM → LM → Prop, Ru l kdR 12 RX8 cX8_refusedOf rmX8_refusedOf FX8 tX8_refusedOf V (fun st J K => st = r.toList ∧ J = I2 ∧ K = L2) → V 0 (lv_args 0 av) [] I L) : KX8_refusedOf l av I L r I2 L2 := cr_of (y := yX8_refusedOf) (cc := cX8_refusedOf) (nL := 4) (ret := (some .int)) (rm := rmX8_refusedOf) (own := RX8) (F := FX8) (P := tX8_refusedOf) (by decide +kernel) rfl kdR_ok fokX8 okX8_refusedOf (by decide +kernel) (by decide +kernel) hlen hz body
abbrev rmX8_refused : Room := { frames := 8, cells := 0, slots := 0, locals := 183 }
abbrev KX8_refused (l : Launch) (av : List Value) (I : IM) (L : LM) (r : Option Value) (I2 : IM) (L2 : LM) : Prop := CR l kdR 12 yX8_refused cX8_refused 4 (some .int) rmX8_refused av I L r I2 L2
theorem wX8_refused (l : Launch) {av : List Value} {I : IM} {L : LM} {r : Option Value} {I2 : IM} {L2 : LM} (hlen : Nat.ble (lg_sl av).length 4 = true) (hz : (some .int) = some FieldType.boolean → ∀ x, r = some (.int x) → x = 0 ∨ x = 1) (body : ∀ V : Nat → LV → List Value → IM → LM → Prop, Ru l kdR 12 RX8 cX8_refused rmX8_refused FX8 tX8_refused V (fun st J K => st = r.toList ∧ J = I2 ∧ K = L2) → V 0 (lv_args 0 av) [] I L) : KX8_refused l av I L r I2 L2 := cr_of (y := yX8_refused) (cc := cX8_refused) (nL := 4) (ret := (some .int)) (rm := rmX8_refused) (own := RX8) (F := FX8) (P := tX8_refused) (by decide +kernel) rfl kdR_ok fokX8 okX8_refused (by decide +kernel) (by decide +kernel) hlen hz body
abbrev rmX8_compareOf : Room := { frames := 7, cells := 0, slots := 0, locals := 160 }
abbrev KX8_compareOf (l : Launch) (av : List Value) (I : IM) (L : LM) (r : Option Value) (I2 : IM) (L2 : LM) : Prop := CR l kdR 12 yX8_compareOf cX8_compareOf 7 (some .int) rmX8_compareOf av I L r I2 L2
theorem wX8_compareOf (l : Launch) {av : List Value} {I : IM} {L : LM} {r : Option Value} {I2 : IM} {L2 : LM} (hlen : Nat.ble (lg_sl av).length 7 = true) (hz : (some .int) = some FieldType.boolean → ∀ x, r = some (.int x) → x = 0 ∨ x = 1) (body : ∀ V : Nat → LV → List Value → IM → LM → Prop, Ru l kdR 12 RX8 cX8_compareOf rmX8_compareOf FX8 tX8_compareOf V (fun st J K => st = r.toList ∧ J = I2 ∧ K = L2) → V 0 (lv_args 0 av) [] I L) : KX8_compareOf l av I L r I2 L2 := cr_of (y := yX8_compareOf) (cc := cX8_compareOf) (nL := 7) (ret := (some .int)) (rm := rmX8_compareOf) (own := RX8) (F := FX8) (P := tX8_compareOf) (by decide +kernel) rfl kdR_ok fokX8 okX8_compareOf (by decide +kernel) (by decide +kernel) hlen hz body
abbrev rmX8_compare : Room := { frames := 8, cells := 0, slots := 0, locals := 186 }
abbrev KX8_compare (l : Launch) (av : List Value) (I : IM) (L : LM) (r : Option Value) (I2 : IM) (L2 : LM) : Prop := CR l kdR 12 yX8_compare cX8_compare 3 (some .int) rmX8_compare av I L r I2 L2
theorem wX8_compare (l : Launch) {av : List Value} {I : IM} {L : LM} {r : Option Value} {I2 : IM} {L2 : LM} (hlen : Nat.ble (lg_sl av).length 3 = true) (hz : (some .int) = some FieldType.boolean → ∀ x, r = some (.int x) → x = 0 ∨ x = 1) (body : ∀ V : Nat → LV → List Value → IM → LM → Prop, Ru l kdR 12 RX8 cX8_compare rmX8_compare FX8 tX8_compare V (fun st J K => st = r.toList ∧ J = I2 ∧ K = L2) → V 0 (lv_args 0 av) [] I L) : KX8_compare l av I L r I2 L2 := cr_of (y := yX8_compare) (cc := cX8_compare) (nL := 3) (ret := (some .int)) (rm := rmX8_compare) (own := RX8) (F := FX8) (P := tX8_compare) (by decide +kernel) rfl kdR_ok fokX8 okX8_compare (by decide +kernel) (by decide +kernel) hlen hz body
abbrev rmX8_counted : Room := { frames := 5, cells := 0, slots := 0, locals := 114 }
abbrev KX8_counted (l : Launch) (av : List Value) (I : IM) (L : LM) (r : Option Value) (I2 : IM) (L2 : LM) : Prop := CR l kdR 12 yX8_counted cX8_counted 2 (some .int) rmX8_counted av I L r I2 L2
theorem wX8_counted (l : Launch) {av : List Value} {I : IM} {L : LM} {r : Option Value} {I2 : IM} {L2 : LM} (hlen : Nat.ble (lg_sl av).length 2 = true) (hz : (some .int) = some FieldType.boolean → ∀ x, r = some (.int x) → x = 0 ∨ x = 1) (body : ∀ V : Nat → LV → List Value → IM → LM → Prop, Ru l kdR 12 RX8 cX8_counted rmX8_counted FX8 tX8_counted V (fun st J K => st = r.toList ∧ J = I2 ∧ K = L2) → V 0 (lv_args 0 av) [] I L) : KX8_counted l av I L r I2 L2 := cr_of (y := yX8_counted) (cc := cX8_counted) (nL := 2) (ret := (some .int)) (rm := rmX8_counted) (own := RX8) (F := FX8) (P := tX8_counted) (by decide +kernel) rfl kdR_ok fokX8 okX8_counted (by decide +kernel) (by decide +kernel) hlen hz body
abbrev rmX8_count : Room := { frames := 6, cells := 0, slots := 0, locals := 135 }
abbrev KX8_count (l : Launch) (av : List Value) (I : IM) (L : LM) (r : Option Value) (I2 : IM) (L2 : LM) : Prop := CR l kdR 12 yX8_count cX8_count 2 (some .int) rmX8_count av I L r I2 L2
theorem wX8_count (l : Launch) {av : List Value} {I : IM} {L : LM} {r : Option Value} {I2 : IM} {L2 : LM} (hlen : Nat.ble (lg_sl av).length 2 = true) (hz : (some .int) = some FieldType.boolean → ∀ x, r = some (.int x) → x = 0 ∨ x = 1) (body : ∀ V : Nat → LV → List Value → IM → LM → Prop, Ru l kdR 12 RX8 cX8_count rmX8_count FX8 tX8_count V (fun st J K => st = r.toList ∧ J = I2 ∧ K = L2) → V 0 (lv_args 0 av) [] I L) : KX8_count l av I L r I2 L2 := cr_of (y := yX8_count) (cc := cX8_count) (nL := 2) (ret := (some .int)) (rm := rmX8_count) (own := RX8) (F := FX8) (P := tX8_count) (by decide +kernel) rfl kdR_ok fokX8 okX8_count (by decide +kernel) (by decide +kernel) hlen hz body
abbrev rmX8_matrixAt : Room := { frames := 2, cells := 0, slots := 0, locals := 43 }
abbrev KX8_matrixAt (l : Launch) (av : List Value) (I : IM) (L : LM) (r : Option Value) (I2 : IM) (L2 : LM) : Prop := CR l kdR 12 yX8_matrixAt cX8_matrixAt 3 (some .int) rmX8_matrixAt av I L r I2 L2
theorem wX8_matrixAt (l : Launch) {av : List Value} {I : IM} {L : LM} {r : Option Value} {I2 : IM} {L2 : LM} (hlen : Nat.ble (lg_sl av).length 3 = true) (hz : (some .int) = some FieldType.boolean → ∀ x, r = some (.int x) → x = 0 ∨ x = 1) (body : ∀ V : Nat → LV → List Value → IM → LM → Prop, Ru l kdR 12 RX8 cX8_matrixAt rmX8_matrixAt FX8 tX8_matrixAt V (fun st J K => st = r.toList ∧ J = I2 ∧ K = L2) → V 0 (lv_args 0 av) [] I L) : KX8_matrixAt l av I L r I2 L2 := cr_of (y := yX8_matrixAt) (cc := cX8_matrixAt) (nL := 3) (ret := (some .int)) (rm := rmX8_matrixAt) (own := RX8) (F := FX8) (P := tX8_matrixAt) (by decide +kernel) rfl kdR_ok fokX8 okX8_matrixAt (by decide +kernel) (by decide +kernel) hlen hz body
abbrev rmX8_densityOf : Room := { frames := 2, cells := 0, slots := 0, locals := 45 }
abbrev KX8_densityOf (l : Launch) (av : List Value) (I : IM) (L : LM) (r : Option Value) (I2 : IM) (L2 : LM) : Prop := CR l kdR 12 yX8_densityOf cX8_densityOf 4 (some .float) rmX8_densityOf av I L r I2 L2
theorem wX8_densityOf (l : Launch) {av : List Value} {I : IM} {L : LM} {r : Option Value} {I2 : IM} {L2 : LM} (hlen : Nat.ble (lg_sl av).length 4 = true) (hz : (some .float) = some FieldType.boolean → ∀ x, r = some (.int x) → x = 0 ∨ x = 1) (body : ∀ V : Nat → LV → List Value → IM → LM → Prop, Ru l kdR 12 RX8 cX8_densityOf rmX8_densityOf FX8 tX8_densityOf V (fun st J K => st = r.toList ∧ J = I2 ∧ K = L2) → V 0 (lv_args 0 av) [] I L) : KX8_densityOf l av I L r I2 L2 := cr_of (y := yX8_densityOf) (cc := cX8_densityOf) (nL := 4) (ret := (some .float)) (rm := rmX8_densityOf) (own := RX8) (F := FX8) (P := tX8_densityOf) (by decide +kernel) rfl kdR_ok fokX8 okX8_densityOf (by decide +kernel) (by decide +kernel) hlen hz body
abbrev rmX8_density : Room := { frames := 3, cells := 0, slots := 0, locals := 68 }
abbrev KX8_density (l : Launch) (av : List Value) (I : IM) (L : LM) (r : Option Value) (I2 : IM) (L2 : LM) : Prop := CR l kdR 12 yX8_density cX8_density 2 (some .float) rmX8_density av I L r I2 L2
theorem wX8_density (l : Launch) {av : List Value} {I : IM} {L : LM} {r : Option Value} {I2 : IM} {L2 : LM} (hlen : Nat.ble (lg_sl av).length 2 = true) (hz : (some .float) = some FieldType.boolean → ∀ x, r = some (.int x) → x = 0 ∨ x = 1) (body : ∀ V : Nat → LV → List Value → IM → LM → Prop, Ru l kdR 12 RX8 cX8_density rmX8_density FX8 tX8_density V (fun st J K => st = r.toList ∧ J = I2 ∧ K = L2) → V 0 (lv_args 0 av) [] I L) : KX8_density l av I L r I2 L2 := cr_of (y := yX8_density) (cc := cX8_density) (nL := 2) (ret := (some .float)) (rm := rmX8_density) (own := RX8) (F := FX8) (P := tX8_density) (by decide +kernel) rfl kdR_ok fokX8 okX8_density (by decide +kernel) (by decide +kernel) hlen hz body
abbrev rmX8_shareOf : Room := { frames := 1, cells := 0, slots := 0, locals := 22 }
abbrev KX8_shareOf (l : Launch) (av : List Value) (I : IM) (L : LM) (r : Option Value) (I2 : IM) (L2 : LM) : Prop := CR l kdR 12 yX8_shareOf cX8_shareOf 10 (some .double) rmX8_shareOf av I L r I2 L2
theorem wX8_shareOf (l : Launch) {av : List Value} {I : IM} {L : LM} {r : Option Value} {I2 : IM} {L2 : LM} (hlen : Nat.ble (lg_sl av).length 10 = true) (hz : (some .double) = some FieldType.boolean → ∀ x, r = some (.int x) → x = 0 ∨ x = 1) (body : ∀ V : Nat → LV → List Value → IM → LM → Prop, Ru l kdR 12 RX8 cX8_shareOf rmX8_shareOf FX8 tX8_shareOf V (fun st J K => st = r.toList ∧ J = I2 ∧ K = L2) → V 0 (lv_args 0 av) [] I L) : KX8_shareOf l av I L r I2 L2 := cr_of (y := yX8_shareOf) (cc := cX8_shareOf) (nL := 10) (ret := (some .double)) (rm := rmX8_shareOf) (own := RX8) (F := FX8) (P := tX8_shareOf) (by decide +kernel) rfl kdR_ok fokX8 okX8_shareOf (by decide +kernel) (by decide +kernel) hlen hz body
abbrev rmX8_share : Room := { frames := 2, cells := 0, slots := 0, locals := 51 }
abbrev KX8_share (l : Launch) (av : List Value) (I : IM) (L : LM) (r : Option Value) (I2 : IM) (L2 : LM) : Prop := CR l kdR 12 yX8_share cX8_share 3 (some .double) rmX8_share av I L r I2 L2
theorem wX8_share (l : Launch) {av : List Value} {I : IM} {L : LM} {r : Option Value} {I2 : IM} {L2 : LM} (hlen : Nat.ble (lg_sl av).length 3 = true) (hz : (some .double) = some FieldType.boolean → ∀ x, r = some (.int x) → x = 0 ∨ x = 1) (body : ∀ V : Nat → LV → List Value → IM → LM → Prop, Ru l kdR 12 RX8 cX8_share rmX8_share FX8 tX8_share V (fun st J K => st = r.toList ∧ J = I2 ∧ K = L2) → V 0 (lv_args 0 av) [] I L) : KX8_share l av I L r I2 L2 := cr_of (y := yX8_share) (cc := cX8_share) (nL := 3) (ret := (some .double)) (rm := rmX8_share) (own := RX8) (F := FX8) (P := tX8_share) (by decide +kernel) rfl kdR_ok fokX8 okX8_share (by decide +kernel) (by decide +kernel) hlen hz body
abbrev rmX8_mix : Room := { frames := 0, cells := 0, slots := 0, locals := 0 }
abbrev KX8_mix (l : Launch) (av : List Value) (I : IM) (L : LM) (r : Option Value) (I2 : IM) (L2 : LM) : Prop := CR l kdR 12 yX8_mix cX8_mix 3 none rmX8_mix av I L r I2 L2
theorem wX8_mix (l : Launch) {av : List Value} {I : IM} {L : LM} {r : Option Value} {I2 : IM} {L2 : LM} (hlen : Nat.ble (lg_sl av).length 3 = true) (hz : none = some FieldType.boolean → ∀ x, r = some (.int x) → x = 0 ∨ x = 1) (body : ∀ V : Nat → LV → List Value → IM → LM → Prop, Ru l kdR 12 RX8 cX8_mix rmX8_mix FX8 tX8_mix V (fun st J K => st = r.toList ∧ J = I2 ∧ K = L2) → V 0 (lv_args 0 av) [] I L) : KX8_mix l av I L r I2 L2 := cr_of (y := yX8_mix) (cc := cX8_mix) (nL := 3) (ret := none) (rm := rmX8_mix) (own := RX8) (F := FX8) (P := tX8_mix) (by decide +kernel) rfl kdR_ok fokX8 okX8_mix (by decide +kernel) (by decide +kernel) hlen hz body
abbrev rmJxf58ca_isNaN_12338 : Room := { frames := 0, cells := 0, slots := 0, locals := 0 }
abbrev KJxf58ca_isNaN_12338 (l : Launch) (av : List Value) (I : IM) (L : LM) (r : Option Value) (I2 : IM) (L2 : LM) : Prop := CR l kdC 181 yJxf58ca_isNaN_12338 cJxf58ca_isNaN_12338 1 (some .boolean) rmJxf58ca_isNaN_12338 av I L r I2 L2
theorem wJxf58ca_isNaN_12338 (l : Launch) {av : List Value} {I : IM} {L : LM} {r : Option Value} {I2 : IM} {L2 : LM} (hlen : Nat.ble (lg_sl av).length 1 = true) (hz : (some .boolean) = some FieldType.boolean → ∀ x, r = some (.int x) → x = 0 ∨ x = 1) (body : ∀ V : Nat → LV → List Value → IM → LM → Prop, Ru l kdC 181 RJxf58ca cJxf58ca_isNaN_12338 rmJxf58ca_isNaN_12338 FJxf58ca tJxf58ca_isNaN_12338 V (fun st J K => st = r.toList ∧ J = I2 ∧ K = L2) → V 0 (lv_args 0 av) [] I L) : KJxf58ca_isNaN_12338 l av I L r I2 L2 := cr_of (y := yJxf58ca_isNaN_12338) (cc := cJxf58ca_isNaN_12338) (nL := 1) (ret := (some .boolean)) (rm := rmJxf58ca_isNaN_12338) (own := RJxf58ca) (F := FJxf58ca) (P := tJxf58ca_isNaN_12338) (by decide +kernel) rfl kdC_ok fokJxf58ca okJxf58ca_isNaN_12338 (by decide +kernel) (by decide +kernel) hlen hz body
abbrev KJxf58ca_isNaN_12338r (l : Launch) (av : List Value) (I : IM) (L : LM) (r : Option Value) (I2 : IM) (L2 : LM) : Prop := CR l kdR 12 yJxf58ca_isNaN_12338 cJxf58ca_isNaN_12338 1 (some .boolean) rmJxf58ca_isNaN_12338 av I L r I2 L2
theorem wJxf58ca_isNaN_12338r (l : Launch) {av : List Value} {I : IM} {L : LM} {r : Option Value} {I2 : IM} {L2 : LM} (hlen : Nat.ble (lg_sl av).length 1 = true) (hz : (some .boolean) = some FieldType.boolean → ∀ x, r = some (.int x) → x = 0 ∨ x = 1) (body : ∀ V : Nat → LV → List Value → IM → LM → Prop, Ru l kdR 12 RJxf58ca cJxf58ca_isNaN_12338 rmJxf58ca_isNaN_12338 FJxf58ca tJxf58ca_isNaN_12338 V (fun st J K => st = r.toList ∧ J = I2 ∧ K = L2) → V 0 (lv_args 0 av) [] I L) : KJxf58ca_isNaN_12338r l av I L r I2 L2 := cr_of (y := yJxf58ca_isNaN_12338) (cc := cJxf58ca_isNaN_12338) (nL := 1) (ret := (some .boolean)) (rm := rmJxf58ca_isNaN_12338) (own := RJxf58ca) (F := FJxf58ca) (P := tJxf58ca_isNaN_12338) (by decide +kernel) rfl kdR_ok fokJxf58ca okJxf58ca_isNaN_12338 (by decide +kernel) (by decide +kernel) hlen hz body
abbrev rmJxf58ca_floatToIntBits_5c35a : Room := { frames := 1, cells := 0, slots := 0, locals := 20 }
abbrev KJxf58ca_floatToIntBits_5c35a (l : Launch) (av : List Value) (I : IM) (L : LM) (r : Option Value) (I2 : IM) (L2 : LM) : Prop := CR l kdC 181 yJxf58ca_floatToIntBits_5c35a cJxf58ca_floatToIntBits_5c35a 1 (some .int) rmJxf58ca_floatToIntBits_5c35a av I L r I2 L2
theorem wJxf58ca_floatToIntBits_5c35a (l : Launch) {av : List Value} {I : IM} {L : LM} {r : Option Value} {I2 : IM} {L2 : LM} (hlen : Nat.ble (lg_sl av).length 1 = true) (hz : (some .int) = some FieldType.boolean → ∀ x, r = some (.int x) → x = 0 ∨ x = 1) (body : ∀ V : Nat → LV → List Value → IM → LM → Prop, Ru l kdC 181 RJxf58ca cJxf58ca_floatToIntBits_5c35a rmJxf58ca_floatToIntBits_5c35a FJxf58ca tJxf58ca_floatToIntBits_5c35a V (fun st J K => st = r.toList ∧ J = I2 ∧ K = L2) → V 0 (lv_args 0 av) [] I L) : KJxf58ca_floatToIntBits_5c35a l av I L r I2 L2 := cr_of (y := yJxf58ca_floatToIntBits_5c35a) (cc := cJxf58ca_floatToIntBits_5c35a) (nL := 1) (ret := (some .int)) (rm := rmJxf58ca_floatToIntBits_5c35a) (own := RJxf58ca) (F := FJxf58ca) (P := tJxf58ca_floatToIntBits_5c35a) (by decide +kernel) rfl kdC_ok fokJxf58ca okJxf58ca_floatToIntBits_5c35a (by decide +kernel) (by decide +kernel) hlen hz body
abbrev KJxf58ca_floatToIntBits_5c35ar (l : Launch) (av : List Value) (I : IM) (L : LM) (r : Option Value) (I2 : IM) (L2 : LM) : Prop := CR l kdR 12 yJxf58ca_floatToIntBits_5c35a cJxf58ca_floatToIntBits_5c35a 1 (some .int) rmJxf58ca_floatToIntBits_5c35a av I L r I2 L2
theorem wJxf58ca_floatToIntBits_5c35ar (l : Launch) {av : List Value} {I : IM} {L : LM} {r : Option Value} {I2 : IM} {L2 : LM} (hlen : Nat.ble (lg_sl av).length 1 = true) (hz : (some .int) = some FieldType.boolean → ∀ x, r = some (.int x) → x = 0 ∨ x = 1) (body : ∀ V : Nat → LV → List Value → IM → LM → Prop, Ru l kdR 12 RJxf58ca cJxf58ca_floatToIntBits_5c35a rmJxf58ca_floatToIntBits_5c35a FJxf58ca tJxf58ca_floatToIntBits_5c35a V (fun st J K => st = r.toList ∧ J = I2 ∧ K = L2) → V 0 (lv_args 0 av) [] I L) : KJxf58ca_floatToIntBits_5c35ar l av I L r I2 L2 := cr_of (y := yJxf58ca_floatToIntBits_5c35a) (cc := cJxf58ca_floatToIntBits_5c35a) (nL := 1) (ret := (some .int)) (rm := rmJxf58ca_floatToIntBits_5c35a) (own := RJxf58ca) (F := FJxf58ca) (P := tJxf58ca_floatToIntBits_5c35a) (by decide +kernel) rfl kdR_ok fokJxf58ca okJxf58ca_floatToIntBits_5c35a (by decide +kernel) (by decide +kernel) hlen hz body
abbrev rmJxe99ae_isNaN_b9ae7 : Room := { frames := 0, cells := 0, slots := 0, locals := 0 }
abbrev KJxe99ae_isNaN_b9ae7 (l : Launch) (av : List Value) (I : IM) (L : LM) (r : Option Value) (I2 : IM) (L2 : LM) : Prop := CR l kdC 181 yJxe99ae_isNaN_b9ae7 cJxe99ae_isNaN_b9ae7 2 (some .boolean) rmJxe99ae_isNaN_b9ae7 av I L r I2 L2
theorem wJxe99ae_isNaN_b9ae7 (l : Launch) {av : List Value} {I : IM} {L : LM} {r : Option Value} {I2 : IM} {L2 : LM} (hlen : Nat.ble (lg_sl av).length 2 = true) (hz : (some .boolean) = some FieldType.boolean → ∀ x, r = some (.int x) → x = 0 ∨ x = 1) (body : ∀ V : Nat → LV → List Value → IM → LM → Prop, Ru l kdC 181 RJxe99ae cJxe99ae_isNaN_b9ae7 rmJxe99ae_isNaN_b9ae7 FJxe99ae tJxe99ae_isNaN_b9ae7 V (fun st J K => st = r.toList ∧ J = I2 ∧ K = L2) → V 0 (lv_args 0 av) [] I L) : KJxe99ae_isNaN_b9ae7 l av I L r I2 L2 := cr_of (y := yJxe99ae_isNaN_b9ae7) (cc := cJxe99ae_isNaN_b9ae7) (nL := 2) (ret := (some .boolean)) (rm := rmJxe99ae_isNaN_b9ae7) (own := RJxe99ae) (F := FJxe99ae) (P := tJxe99ae_isNaN_b9ae7) (by decide +kernel) rfl kdC_ok fokJxe99ae okJxe99ae_isNaN_b9ae7 (by decide +kernel) (by decide +kernel) hlen hz body
abbrev KJxe99ae_isNaN_b9ae7r (l : Launch) (av : List Value) (I : IM) (L : LM) (r : Option Value) (I2 : IM) (L2 : LM) : Prop := CR l kdR 12 yJxe99ae_isNaN_b9ae7 cJxe99ae_isNaN_b9ae7 2 (some .boolean) rmJxe99ae_isNaN_b9ae7 av I L r I2 L2
theorem wJxe99ae_isNaN_b9ae7r (l : Launch) {av : List Value} {I : IM} {L : LM} {r : Option Value} {I2 : IM} {L2 : LM} (hlen : Nat.ble (lg_sl av).length 2 = true) (hz : (some .boolean) = some FieldType.boolean → ∀ x, r = some (.int x) → x = 0 ∨ x = 1) (body : ∀ V : Nat → LV → List Value → IM → LM → Prop, Ru l kdR 12 RJxe99ae cJxe99ae_isNaN_b9ae7 rmJxe99ae_isNaN_b9ae7 FJxe99ae tJxe99ae_isNaN_b9ae7 V (fun st J K => st = r.toList ∧ J = I2 ∧ K = L2) → V 0 (lv_args 0 av) [] I L) : KJxe99ae_isNaN_b9ae7r l av I L r I2 L2 := cr_of (y := yJxe99ae_isNaN_b9ae7) (cc := cJxe99ae_isNaN_b9ae7) (nL := 2) (ret := (some .boolean)) (rm := rmJxe99ae_isNaN_b9ae7) (own := RJxe99ae) (F := FJxe99ae) (P := tJxe99ae_isNaN_b9ae7) (by decide +kernel) rfl kdR_ok fokJxe99ae okJxe99ae_isNaN_b9ae7 (by decide +kernel) (by decide +kernel) hlen hz body
abbrev rmJxe99ae_doubleToLongBits_ccdee : Room := { frames := 1, cells := 0, slots := 0, locals := 21 }
abbrev KJxe99ae_doubleToLongBits_ccdee (l : Launch) (av : List Value) (I : IM) (L : LM) (r : Option Value) (I2 : IM) (L2 : LM) : Prop := CR l kdC 181 yJxe99ae_doubleToLongBits_ccdee cJxe99ae_doubleToLongBits_ccdee 2 (some .long) rmJxe99ae_doubleToLongBits_ccdee av I L r I2 L2
theorem wJxe99ae_doubleToLongBits_ccdee (l : Launch) {av : List Value} {I : IM} {L : LM} {r : Option Value} {I2 : IM} {L2 : LM} (hlen : Nat.ble (lg_sl av).length 2 = true) (hz : (some .long) = some FieldType.boolean → ∀ x, r = some (.int x) → x = 0 ∨ x = 1) (body : ∀ V : Nat → LV → List Value → IM → LM → Prop, Ru l kdC 181 RJxe99ae cJxe99ae_doubleToLongBits_ccdee rmJxe99ae_doubleToLongBits_ccdee FJxe99ae tJxe99ae_doubleToLongBits_ccdee V (fun st J K => st = r.toList ∧ J = I2 ∧ K = L2) → V 0 (lv_args 0 av) [] I L) : KJxe99ae_doubleToLongBits_ccdee l av I L r I2 L2 := cr_of (y := yJxe99ae_doubleToLongBits_ccdee) (cc := cJxe99ae_doubleToLongBits_ccdee) (nL := 2) (ret := (some .long)) (rm := rmJxe99ae_doubleToLongBits_ccdee) (own := RJxe99ae) (F := FJxe99ae) (P := tJxe99ae_doubleToLongBits_ccdee) (by decide +kernel) rfl kdC_ok fokJxe99ae okJxe99ae_doubleToLongBits_ccdee (by decide +kernel) (by decide +kernel) hlen hz body
abbrev KJxe99ae_doubleToLongBits_ccdeer (l : Launch) (av : List Value) (I : IM) (L : LM) (r : Option Value) (I2 : IM) (L2 : LM) : Prop := CR l kdR 12 yJxe99ae_doubleToLongBits_ccdee cJxe99ae_doubleToLongBits_ccdee 2 (some .long) rmJxe99ae_doubleToLongBits_ccdee av I L r I2 L2
theorem wJxe99ae_doubleToLongBits_ccdeer (l : Launch) {av : List Value} {I : IM} {L : LM} {r : Option Value} {I2 : IM} {L2 : LM} (hlen : Nat.ble (lg_sl av).length 2 = true) (hz : (some .long) = some FieldType.boolean → ∀ x, r = some (.int x) → x = 0 ∨ x = 1) (body : ∀ V : Nat → LV → List Value → IM → LM → Prop, Ru l kdR 12 RJxe99ae cJxe99ae_doubleToLongBits_ccdee rmJxe99ae_doubleToLongBits_ccdee FJxe99ae tJxe99ae_doubleToLongBits_ccdee V (fun st J K => st = r.toList ∧ J = I2 ∧ K = L2) → V 0 (lv_args 0 av) [] I L) : KJxe99ae_doubleToLongBits_ccdeer l av I L r I2 L2 := cr_of (y := yJxe99ae_doubleToLongBits_ccdee) (cc := cJxe99ae_doubleToLongBits_ccdee) (nL := 2) (ret := (some .long)) (rm := rmJxe99ae_doubleToLongBits_ccdee) (own := RJxe99ae) (F := FJxe99ae) (P := tJxe99ae_doubleToLongBits_ccdee) (by decide +kernel) rfl kdR_ok fokJxe99ae okJxe99ae_doubleToLongBits_ccdee (by decide +kernel) (by decide +kernel) hlen hz body
abbrev rmX8_mixSlot : Room := { frames := 8, cells := 0, slots := 0, locals := 186 }
abbrev KX8_mixSlot (l : Launch) (av : List Value) (I : IM) (L : LM) (r : Option Value) (I2 : IM) (L2 : LM) : Prop := CR l kdR 12 yX8_mixSlot cX8_mixSlot 5 none rmX8_mixSlot av I L r I2 L2
theorem wX8_mixSlot (l : Launch) {av : List Value} {I : IM} {L : LM} {r : Option Value} {I2 : IM} {L2 : LM} (hlen : Nat.ble (lg_sl av).length 5 = true) (hz : none = some FieldType.boolean → ∀ x, r = some (.int x) → x = 0 ∨ x = 1) (body : ∀ V : Nat → LV → List Value → IM → LM → Prop, Ru l kdR 12 RX8 cX8_mixSlot rmX8_mixSlot FX8 tX8_mixSlot V (fun st J K => st = r.toList ∧ J = I2 ∧ K = L2) → V 0 (lv_args 0 av) [] I L) : KX8_mixSlot l av I L r I2 L2 := cr_of (y := yX8_mixSlot) (cc := cX8_mixSlot) (nL := 5) (ret := none) (rm := rmX8_mixSlot) (own := RX8) (F := FX8) (P := tX8_mixSlot) (by decide +kernel) rfl kdR_ok fokX8 okX8_mixSlot (by decide +kernel) (by decide +kernel) hlen hz body
abbrev rmX8_digest : Room := { frames := 9, cells := 0, slots := 0, locals := 210 }
abbrev KX8_digest (l : Launch) (av : List Value) (I : IM) (L : LM) (r : Option Value) (I2 : IM) (L2 : LM) : Prop := CR l kdR 12 yX8_digest cX8_digest 3 (some .long) rmX8_digest av I L r I2 L2
theorem wX8_digest (l : Launch) {av : List Value} {I : IM} {L : LM} {r : Option Value} {I2 : IM} {L2 : LM} (hlen : Nat.ble (lg_sl av).length 3 = true) (hz : (some .long) = some FieldType.boolean → ∀ x, r = some (.int x) → x = 0 ∨ x = 1) (body : ∀ V : Nat → LV → List Value → IM → LM → Prop, Ru l kdR 12 RX8 cX8_digest rmX8_digest FX8 tX8_digest V (fun st J K => st = r.toList ∧ J = I2 ∧ K = L2) → V 0 (lv_args 0 av) [] I L) : KX8_digest l av I L r I2 L2 := cr_of (y := yX8_digest) (cc := cX8_digest) (nL := 3) (ret := (some .long)) (rm := rmX8_digest) (own := RX8) (F := FX8) (P := tX8_digest) (by decide +kernel) rfl kdR_ok fokX8 okX8_digest (by decide +kernel) (by decide +kernel) hlen hz body
abbrev rmJ9_abs_0f7a4 : Room := { frames := 0, cells := 0, slots := 0, locals := 0 }
abbrev KJ9_abs_0f7a4 (l : Launch) (av : List Value) (I : IM) (L : LM) (r : Option Value) (I2 : IM) (L2 : LM) : Prop := CR l kdC 181 yJ9_abs_0f7a4 cJ9_abs_0f7a4 1 (some .int) rmJ9_abs_0f7a4 av I L r I2 L2
theorem wJ9_abs_0f7a4 (l : Launch) {av : List Value} {I : IM} {L : LM} {r : Option Value} {I2 : IM} {L2 : LM} (hlen : Nat.ble (lg_sl av).length 1 = true) (hz : (some .int) = some FieldType.boolean → ∀ x, r = some (.int x) → x = 0 ∨ x = 1) (body : ∀ V : Nat → LV → List Value → IM → LM → Prop, Ru l kdC 181 RJ9 cJ9_abs_0f7a4 rmJ9_abs_0f7a4 FJ9 tJ9_abs_0f7a4 V (fun st J K => st = r.toList ∧ J = I2 ∧ K = L2) → V 0 (lv_args 0 av) [] I L) : KJ9_abs_0f7a4 l av I L r I2 L2 := cr_of (y := yJ9_abs_0f7a4) (cc := cJ9_abs_0f7a4) (nL := 1) (ret := (some .int)) (rm := rmJ9_abs_0f7a4) (own := RJ9) (F := FJ9) (P := tJ9_abs_0f7a4) (by decide +kernel) rfl kdC_ok fokJ9 okJ9_abs_0f7a4 (by decide +kernel) (by decide +kernel) hlen hz body
abbrev KJ9_abs_0f7a4r (l : Launch) (av : List Value) (I : IM) (L : LM) (r : Option Value) (I2 : IM) (L2 : LM) : Prop := CR l kdR 12 yJ9_abs_0f7a4 cJ9_abs_0f7a4 1 (some .int) rmJ9_abs_0f7a4 av I L r I2 L2
theorem wJ9_abs_0f7a4r (l : Launch) {av : List Value} {I : IM} {L : LM} {r : Option Value} {I2 : IM} {L2 : LM} (hlen : Nat.ble (lg_sl av).length 1 = true) (hz : (some .int) = some FieldType.boolean → ∀ x, r = some (.int x) → x = 0 ∨ x = 1) (body : ∀ V : Nat → LV → List Value → IM → LM → Prop, Ru l kdR 12 RJ9 cJ9_abs_0f7a4 rmJ9_abs_0f7a4 FJ9 tJ9_abs_0f7a4 V (fun st J K => st = r.toList ∧ J = I2 ∧ K = L2) → V 0 (lv_args 0 av) [] I L) : KJ9_abs_0f7a4r l av I L r I2 L2 := cr_of (y := yJ9_abs_0f7a4) (cc := cJ9_abs_0f7a4) (nL := 1) (ret := (some .int)) (rm := rmJ9_abs_0f7a4) (own := RJ9) (F := FJ9) (P := tJ9_abs_0f7a4) (by decide +kernel) rfl kdR_ok fokJ9 okJ9_abs_0f7a4 (by decide +kernel) (by decide +kernel) hlen hz body
abbrev rmJ9_abs_067f4 : Room := { frames := 0, cells := 0, slots := 0, locals := 0 }
abbrev KJ9_abs_067f4 (l : Launch) (av : List Value) (I : IM) (L : LM) (r : Option Value) (I2 : IM) (L2 : LM) : Prop := CR l kdC 181 yJ9_abs_067f4 cJ9_abs_067f4 2 (some .long) rmJ9_abs_067f4 av I L r I2 L2
theorem wJ9_abs_067f4 (l : Launch) {av : List Value} {I : IM} {L : LM} {r : Option Value} {I2 : IM} {L2 : LM} (hlen : Nat.ble (lg_sl av).length 2 = true) (hz : (some .long) = some FieldType.boolean → ∀ x, r = some (.int x) → x = 0 ∨ x = 1) (body : ∀ V : Nat → LV → List Value → IM → LM → Prop, Ru l kdC 181 RJ9 cJ9_abs_067f4 rmJ9_abs_067f4 FJ9 tJ9_abs_067f4 V (fun st J K => st = r.toList ∧ J = I2 ∧ K = L2) → V 0 (lv_args 0 av) [] I L) : KJ9_abs_067f4 l av I L r I2 L2 := cr_of (y := yJ9_abs_067f4) (cc := cJ9_abs_067f4) (nL := 2) (ret := (some .long)) (rm := rmJ9_abs_067f4) (own := RJ9) (F := FJ9) (P := tJ9_abs_067f4) (by decide +kernel) rfl kdC_ok fokJ9 okJ9_abs_067f4 (by decide +kernel) (by decide +kernel) hlen hz body
abbrev KJ9_abs_067f4r (l : Launch) (av : List Value) (I : IM) (L : LM) (r : Option Value) (I2 : IM) (L2 : LM) : Prop := CR l kdR 12 yJ9_abs_067f4 cJ9_abs_067f4 2 (some .long) rmJ9_abs_067f4 av I L r I2 L2
theorem wJ9_abs_067f4r (l : Launch) {av : List Value} {I : IM} {L : LM} {r : Option Value} {I2 : IM} {L2 : LM} (hlen : Nat.ble (lg_sl av).length 2 = true) (hz : (some .long) = some FieldType.boolean → ∀ x, r = some (.int x) → x = 0 ∨ x = 1) (body : ∀ V : Nat → LV → List Value → IM → LM → Prop, Ru l kdR 12 RJ9 cJ9_abs_067f4 rmJ9_abs_067f4 FJ9 tJ9_abs_067f4 V (fun st J K => st = r.toList ∧ J = I2 ∧ K = L2) → V 0 (lv_args 0 av) [] I L) : KJ9_abs_067f4r l av I L r I2 L2 := cr_of (y := yJ9_abs_067f4) (cc := cJ9_abs_067f4) (nL := 2) (ret := (some .long)) (rm := rmJ9_abs_067f4) (own := RJ9) (F := FJ9) (P := tJ9_abs_067f4) (by decide +kernel) rfl kdR_ok fokJ9 okJ9_abs_067f4 (by decide +kernel) (by decide +kernel) hlen hz body
abbrev rmJ9_max_7cf53 : Room := { frames := 0, cells := 0, slots := 0, locals := 0 }
abbrev KJ9_max_7cf53 (l : Launch) (av : List Value) (I : IM) (L : LM) (r : Option Value) (I2 : IM) (L2 : LM) : Prop := CR l kdC 181 yJ9_max_7cf53 cJ9_max_7cf53 2 (some .int) rmJ9_max_7cf53 av I L r I2 L2
theorem wJ9_max_7cf53 (l : Launch) {av : List Value} {I : IM} {L : LM} {r : Option Value} {I2 : IM} {L2 : LM} (hlen : Nat.ble (lg_sl av).length 2 = true) (hz : (some .int) = some FieldType.boolean → ∀ x, r = some (.int x) → x = 0 ∨ x = 1) (body : ∀ V : Nat → LV → List Value → IM → LM → Prop, Ru l kdC 181 RJ9 cJ9_max_7cf53 rmJ9_max_7cf53 FJ9 tJ9_max_7cf53 V (fun st J K => st = r.toList ∧ J = I2 ∧ K = L2) → V 0 (lv_args 0 av) [] I L) : KJ9_max_7cf53 l av I L r I2 L2 := cr_of (y := yJ9_max_7cf53) (cc := cJ9_max_7cf53) (nL := 2) (ret := (some .int)) (rm := rmJ9_max_7cf53) (own := RJ9) (F := FJ9) (P := tJ9_max_7cf53) (by decide +kernel) rfl kdC_ok fokJ9 okJ9_max_7cf53 (by decide +kernel) (by decide +kernel) hlen hz body
abbrev KJ9_max_7cf53r (l : Launch) (av : List Value) (I : IM) (L : LM) (r : Option Value) (I2 : IM) (L2 : LM) : Prop := CR l kdR 12 yJ9_max_7cf53 cJ9_max_7cf53 2 (some .int) rmJ9_max_7cf53 av I L r I2 L2
theorem wJ9_max_7cf53r (l : Launch) {av : List Value} {I : IM} {L : LM} {r : Option Value} {I2 : IM} {L2 : LM} (hlen : Nat.ble (lg_sl av).length 2 = true) (hz : (some .int) = some FieldType.boolean → ∀ x, r = some (.int x) → x = 0 ∨ x = 1) (body : ∀ V : Nat → LV → List Value → IM → LM → Prop, Ru l kdR 12 RJ9 cJ9_max_7cf53 rmJ9_max_7cf53 FJ9 tJ9_max_7cf53 V (fun st J K => st = r.toList ∧ J = I2 ∧ K = L2) → V 0 (lv_args 0 av) [] I L) : KJ9_max_7cf53r l av I L r I2 L2 := cr_of (y := yJ9_max_7cf53) (cc := cJ9_max_7cf53) (nL := 2) (ret := (some .int)) (rm := rmJ9_max_7cf53) (own := RJ9) (F := FJ9) (P := tJ9_max_7cf53) (by decide +kernel) rfl kdR_ok fokJ9 okJ9_max_7cf53 (by decide +kernel) (by decide +kernel) hlen hz body
/-- a run of n instructions that doesn't end the method -/
theorem ru_go {l : Launch} {kd : KdT} {N : Nat} {own : String} {cc : ByteArray} {R : Room} {F : Ft} {P : List En} {V : Nat → LV → List Value → IM → LM → Prop} {E : List Value → IM → LM → Prop} (hV : Ru l kd N own cc R F P V E) (n : Nat) (ds : List (Nat × Nat)) {pc : Nat} {lv : LV} {st : List Value} {I : IM} {L : LM} {O2 : Prop} {pc2 : Nat} {lv2 : LV} {st2 : List Value} {I2 : IM} {L2 : LM} (hr : run kd F P n ds True pc lv st I L = (O2, pc2, lv2, st2, I2, L2)) (h1 : (Nat.blt pc RET && Nat.blt pc2 RET) = true) (ho : O2) (hv : V pc2 lv2 st2 I2 L2) : V pc lv st I L := by
  obtain ⟨h1, h2⟩ := Bool.and_eq_true_iff.mp h1
  have h1 := Nat.blt_eq.mp h1
  have h2 := Nat.blt_eq.mp h2
  exact hV.1 n ds pc lv st I L O2 pc2 lv2 st2 I2 L2 hr h1 ho (by rw [if_neg (Nat.ne_of_lt h2)]; exact hv)
/-- a run to the method's end -/
theorem ru_fin {l : Launch} {kd : KdT} {N : Nat} {own : String} {cc : ByteArray} {R : Room} {F : Ft} {P : List En} {V : Nat → LV → List Value → IM → LM → Prop} {E : List Value → IM → LM → Prop} (hV : Ru l kd N own cc R F P V E) (n : Nat) (ds : List (Nat × Nat)) {pc : Nat} {lv : LV} {st : List Value} {I : IM} {L : LM} {O2 : Prop} {lv2 : LV} {st2 : List Value} {I2 : IM} {L2 : LM} (hr : run kd F P n ds True pc lv st I L = (O2, RET, lv2, st2, I2, L2)) (h1 : Nat.blt pc RET = true) (ho : O2) (hv : E st2 I2 L2) : V pc lv st I L := by
  simp only [Nat.blt_eq] at h1
  exact hV.1 n ds pc lv st I L O2 RET lv2 st2 I2 L2 hr h1 ho (by rw [if_pos rfl]; exact hv)
theorem ru_S {l : Launch} {kd : KdT} {N : Nat} {own : String} {cc : ByteArray} {R : Room} {F : Ft} {P : List En} {V : Nat → LV → List Value → IM → LM → Prop} {E : List Value → IM → LM → Prop} (hV : Ru l kd N own cc R F P V E) {pc ix np tg : Nat} {cv : Value} {y : MethodName} {bytes : ByteArray} {maxL : Nat} {ret : Option FieldType} {rm : Room} {av st : List Value} {lv : LV} {I I2 : IM} {L L2 : LM} {r : Option Value} (rest : List Value) (hs : SitS own ix y bytes maxL ret av.length) (hM : CR l kd N y bytes maxL ret rm av I L r I2 L2) (hl : lk P pc = some (.invokestatic ix, np, tg, cv)) (hrm : RmOK rm R maxL = true) (hst : st = av.reverse ++ rest) (hcat : (rest.map fun v => v.category).sum ≤ 8) (hv : V np lv (r.toList ++ rest) I2 L2) : V pc lv st I L := by
  subst hst
  exact hV.2.1 pc ix np tg cv y bytes maxL ret rm av rest lv I L r I2 L2 hl hs hrm hM hcat hv
theorem ru_V {l : Launch} {kd : KdT} {N : Nat} {own : String} {cc : ByteArray} {R : Room} {F : Ft} {P : List En} {V : Nat → LV → List Value → IM → LM → Prop} {E : List Value → IM → LM → Prop} (hV : Ru l kd N own cc R F P V E) {pc ix np tg i ci b NF : Nat} {T : u_T} {cv : Value} {y : MethodName} {bytes : ByteArray} {maxL : Nat} {ret : Option FieldType} {rm : Room} {av st : List Value} {lv : LV} {I I2 : IM} {L L2 : LM} {r : Option Value} (rest : List Value) (hs : SitV own ix y bytes maxL ret av.length) (hM : CR l kd N y bytes maxL ret rm (.ref i :: av) I L r I2 L2) (hk : kd i = (0, ci, b)) (hc : vwCl[ci]? = some (y.cls, T, NF)) (hl : lk P pc = some (.invokevirtual ix, np, tg, cv)) (hrm : RmOK rm R maxL = true) (hst : st = av.reverse ++ .ref i :: rest) (hcat : (rest.map fun v => v.category).sum ≤ 8) (hv : V np lv (r.toList ++ rest) I2 L2) : V pc lv st I L := by
  subst hst
  exact hV.2.2.1 pc ix np tg cv y bytes maxL ret rm av rest lv I L r I2 L2 i ci b T NF hl hs hrm hk hc hM hcat hv
theorem ru_sub {l : Launch} {kd : KdT} {N : Nat} {own : String} {cc : ByteArray} {R : Room} {F : Ft} {P : List En} {V : Nat → LV → List Value → IM → LM → Prop} {E : List Value → IM → LM → Prop} (hV : Ru l kd N own cc R F P V E) {pc : Nat} {lv lv2 : LV} {st : List Value} {I : IM} {L : LM} (ks : List Nat) (h : ks.filterMap (fun k => lv[k]?) = lv2) (hv : V pc lv2 st I L) : V pc lv st I L := by
  refine hV.2.2.2.1 pc lv lv2 st I L (fun q hq => ?_) hv
  subst h
  obtain ⟨k, -, hk⟩ := List.mem_filterMap.mp hq
  exact List.mem_of_getElem? hk
theorem hz0 {ret : Option FieldType} {r : Option Value} (h : ¬ ret = some .boolean) : ret = some FieldType.boolean → ∀ x, r = some (.int x) → x = 0 ∨ x = 1 := fun e => absurd e h
end
section
/-! METHODS THAT THROW -/
/-- the class's texts -/
def txts : List (Nat × String) := [(65, "n is not 2 to 5"), (84, "the sign is neither 1 nor -1"), (155, "the code is not 33 to 126"), (159, "the buffer is full"), (170, "the buffer is not a complete form"), (196, "the snapshot was not taken"), (201, "there is no saved state"), (206, "there is no such property"), (216, "the way is not 0 or 1"), (241, "there is no such result"), (272, "there is no such number"), (303, "there is no such slot"), (306, "there is no such blade"), (308, "there is no such direction"), (310, "there is no such snapshot"), (312, "the grade is out of range"), (314, "the place is out of range"), (316, "the number is out of range"), (322, "the result is refused")]
def exN : List String := ["java/lang/RuntimeException", "java/lang/Exception"]
def nwD : List MethodName := [⟨"java/lang/RuntimeException", "<init>", "()V"⟩, ⟨"java/lang/RuntimeException", "<init>", "(Ljava/lang/String;)V"⟩, ⟨"java/lang/Exception", "<init>", "()V"⟩, ⟨"java/lang/Exception", "<init>", "(Ljava/lang/String;)V"⟩, ⟨"java/lang/Throwable", "<init>", "()V"⟩, ⟨"java/lang/Throwable", "<init>", "(Ljava/lang/String;)V"⟩]
def nwC : List String := ["java/lang/IllegalArgumentException", "java/lang/IndexOutOfBoundsException", "java/lang/IllegalStateException"]
def nwL : List Cond := nwD.map Cond.declares ++ nwC.map (fun C => Cond.castable C C)
def NWs (U : State) : Prop := (∀ x ∈ nwD, va_Nw (.declares x) U) ∧ ∀ C ∈ nwC, va_Nw (.castable C C) U
theorem NWs.warm {s U : State} (h : NWs s) (hW : s.WarmedH U.vm) : NWs U := ⟨fun x hx => va_Nw.warmD hW (h.1 x hx), fun C hC => va_Nw.warmC hW (h.2 C hC)⟩
theorem NWs.same {s U : State} (h : NWs s) (hv : s.vm = U.vm) : NWs U := ⟨fun x hx => va_Nw.same rfl hv (h.1 x hx), fun C hC => va_Nw.same rfl hv (h.2 C hC)⟩
theorem NWs.use {s : State} (h : NWs s) {w : Cond} {A : Array Value} (hw : w ∈ nwL) : w.before A s = true ∧ vx_ot w = true := by
  rcases List.mem_append.mp hw with hw | hw
  · obtain ⟨x, hx, rfl⟩ := List.mem_map.mp hw
    exact ⟨va_Nw.use rfl (h.1 x hx), rfl⟩
  · obtain ⟨x, hx, rfl⟩ := List.mem_map.mp hw
    exact ⟨va_Nw.use rfl (h.2 x hx), rfl⟩
/-- what a throw needs of the start: two statics of Throwable, and the texts -/
def EX (A : Nat → Prop) (U : State) : Prop := vx_Zq Bundle.tN "UNASSIGNED_STACK" Bundle.steD A U U.heap ∧ vx_Zq Bundle.tN "SUPPRESSED_SENTINEL" Bundle.listD A U U.heap ∧ (∀ q ∈ txts, ∃ sa, vk_R "BladeDesk" q.1 q.2 sa U) ∧ NWs U
theorem EX.moved {A : Nat → Prop} {s U : State} (h : EX A s) (hW : s.WarmedH U.vm) (hq : ∀ a : Nat, a < s.heap.size → ¬ A a → U.heap[a]? = s.heap[a]?) : EX A U :=
  ⟨(vx_Zq.kept h.1 hq).moved hW.alike, (vx_Zq.kept h.2.1 hq).moved hW.alike, fun q hqm => by
    obtain ⟨sa, h1⟩ := h.2.2.1 q hqm
    exact ⟨sa, h1.warm hW⟩, h.2.2.2.warm hW⟩
/-- THE CONTRACT of a throw: over the world of I and L, with these arguments, it throws E0 and leaves the world of I2 and L2 -/
def CX (l : Launch) (kd : KdT) (N : Nat) (y : MethodName) (bytes : ByteArray) (maxL : Nat) (ret : Option FieldType) (rm : Room) (av : List Value) (I : IM) (L : LM) (E0 : String) (I2 : IM) (L2 : LM) : Prop :=
  ∀ (D : va_G) (cy : Nat → ClassId) (ad : Nat → Nat), inj ad N → vx_Met l y (wsY y bytes maxL ret) rm (va_Pc (av.map (cz ad)) (fun U => wd D cy kd ad N I L U.heap ∧ va_K D vwCl (tysC cy) U ∧ EX (AA ad N) U)) (fun _ _ _ _ => False) (fun E st t => E = E0 ∧ wd D cy kd ad N I2 L2 t.heap ∧ va_F (AA ad N) st t) 1 6 (AA ad N)
def RmX (rm R : Room) (maxL : Nat) : Bool := Nat.beq rm.cells 1 && (Nat.beq rm.slots 6 && (Nat.ble (rm.frames + 1) R.frames && (Nat.ble (8 + (maxL + 11) + rm.locals) R.locals && (Nat.ble 1 R.cells && Nat.ble 6 R.slots))))
theorem rmX_of {rm R : Room} {maxL : Nat} (h : RmX rm R maxL = true) : rm.cells = 1 ∧ rm.slots = 6 ∧ rm.frames + 1 ≤ R.frames ∧ 8 + (maxL + 11) + rm.locals ≤ R.locals ∧ 1 ≤ R.cells ∧ 6 ≤ R.slots := by
  simp only [RmX, Bool.and_eq_true, Nat.ble_eq, Nat.beq_eq] at h
  exact h
/-- where a throw stands: new, dup, ldc, invokespecial, athrow -/
def ThrS (cc : ByteArray) (pc ik is ic : Nat) : Prop := decode cc pc = .ok (.new ik, 3) ∧ decode cc (pc + 3) = .ok (.dup, 1) ∧ decode cc (pc + 4) = .ok (.ldc is, 2) ∧ decode cc (pc + 6) = .ok (.invokespecial ic, 3) ∧ decode cc (pc + 9) = .ok (.athrow, 1)
def ThrW (cc : ByteArray) (pc ik is ic : Nat) : Prop := decode cc pc = .ok (.new ik, 3) ∧ decode cc (pc + 3) = .ok (.dup, 1) ∧ decode cc (pc + 4) = .ok (.ldc_w is, 3) ∧ decode cc (pc + 7) = .ok (.invokespecial ic, 3) ∧ decode cc (pc + 10) = .ok (.athrow, 1)
/-- the words of an exception -/
def ExcOK (ik ic : Nat) (cls : String) : Prop := Bundle.fit cls = true ∧ Cond.classLink "BladeDesk" ik cls ∈ WB ∧ Cond.initialized cls ∈ WB ∧ ∀ w ∈ vx_atS "BladeDesk" ic cls exN, w ∈ WB ∨ w ∈ nwL
theorem WB_ot {w : Cond} (h : w ∈ WB) : vx_ot w = true := by
  have := (List.mem_filter.mp h).2
  unfold vx_ot
  rw [this, Bool.or_true]
/-- the rules of a walk that comes to a throw -/
def Rx (l : Launch) (kd : KdT) (N : Nat) (own : String) (cc : ByteArray) (R : Room) (F : Ft) (P : List En) (V : Nat → LV → List Value → IM → LM → Prop) (E0 : String) (I2 : IM) (L2 : LM) : Prop :=
  Ru l kd N own cc R F P V (fun _ _ _ => False) ∧
  (∀ (pc ik is ic : Nat) (cls tx : String) (rest : List Value) (lv : LV) (I : IM) (L : LM), ThrS cc pc ik is ic → (is, tx) ∈ txts → ExcOK ik ic cls → exN.length + 3 < R.frames → (rest.map fun v => v.category).sum + (13 * (exN.length + 1) + 43) ≤ R.locals → 1 ≤ R.cells → 6 ≤ R.slots → (cls = E0 ∧ I = I2 ∧ L = L2) → V pc lv rest I L) ∧
  (∀ (pc ik is ic : Nat) (cls tx : String) (rest : List Value) (lv : LV) (I : IM) (L : LM), ThrW cc pc ik is ic → (is, tx) ∈ txts → ExcOK ik ic cls → exN.length + 3 < R.frames → (rest.map fun v => v.category).sum + (13 * (exN.length + 1) + 43) ≤ R.locals → 1 ≤ R.cells → 6 ≤ R.slots → (cls = E0 ∧ I = I2 ∧ L = L2) → V pc lv rest I L) ∧
  (∀ (pc ix np tg : Nat) (cv : Value) (y : MethodName) (bytes : ByteArray) (maxL : Nat) (ret : Option FieldType) (rm : Room) (av rest : List Value) (lv : LV) (I : IM) (L : LM), lk P pc = some (.invokestatic ix, np, tg, cv) → SitS own ix y bytes maxL ret av.length → RmX rm R maxL = true → CX l kd N y bytes maxL ret rm av I L E0 I2 L2 → (rest.map fun v => v.category).sum ≤ 8 → V pc lv (av.reverse ++ rest) I L) ∧
  (∀ (pc ix np tg : Nat) (cv : Value) (y : MethodName) (bytes : ByteArray) (maxL : Nat) (ret : Option FieldType) (rm : Room) (av rest : List Value) (lv : LV) (I : IM) (L : LM) (i ci b : Nat) (T : u_T) (NF : Nat), lk P pc = some (.invokevirtual ix, np, tg, cv) → SitV own ix y bytes maxL ret av.length → RmX rm R maxL = true → kd i = (0, ci, b) → vwCl[ci]? = some (y.cls, T, NF) → CX l kd N y bytes maxL ret rm (.ref i :: av) I L E0 I2 L2 → (rest.map fun v => v.category).sum ≤ 8 → V pc lv (av.reverse ++ .ref i :: rest) I L)
/-- a callee's throw goes on out of the caller -/
theorem vx_outw {p : Program} {l : Launch} {e : Env} {R : Room} {s : State} {m : MethodId} {args : Array Value} {below : List Frame} {meth : Method} {c : Code} {D : va_G} {cy : Nat → ClassId} {kd : KdT} {ad : Nat → Nat} {N : Nat} {H : Heap} {locs : List Loc} {ls : Array Slot} {pc : Nat} {st0 rest : List Value} {E0 : String} {I2 : IM} {L2 : LM} {Qn : State → Outcome → State → Prop} (hQ : ∀ a b c, ¬ Qn a b c)
    (hr : vx_Run p l e R s m args below meth c H locs 0 0 1 6 (F0 m pc ls st0) rest Qn (fun E st t => E = E0 ∧ wd D cy kd ad N I2 L2 t.heap ∧ va_F (AA ad N) st t) (AA ad N)) (hno : ∀ x ∈ c.exceptionTable.toList, False) (hlocks : meth.locks = false) (hS : va_S (AA ad N) s.heap H locs) :
    W p l e R s m args below meth c H locs 0 0 (vx_MQ below (fun _ _ _ _ => False) (fun E st t => E = E0 ∧ wd D cy kd ad N I2 L2 t.heap ∧ va_F (AA ad N) st t) args s 1 6 (AA ad N)) (F0 m pc ls st0) := by
  intro T hT X
  rcases hr T hT X with ⟨v, st₀, t, T', Lx, h0, X', hL, e1, e2, hq, st⟩ | ⟨q, st₀, t, T', Lx, E, ce, h0, X', hL, e1, e2, ⟨rfl, hwd, hz, hk⟩, hce, hcv, hcl, st⟩
  · exact absurd hq (hQ _ _ _)
  · rw [h0] at hz hk
    have hF : ∀ U : State, U.heap = T'.heap → va_F (AA ad N) s U := fun U hU => ⟨Nat.le_trans hS.1 (by rw [hU, e1]; exact hz), fun q h1 h2 => by rw [hU, e1, hk q (Nat.lt_of_lt_of_le h1 hS.1) h2]; exact hS.2.1 q h1 h2⟩
    obtain ⟨t2, a1, b1⟩ := vx_out (p := p) (l := l) (e := e) (R := R) (s := s) (m := m) (args := args) (below := below) (meth := meth) (c := c) (H := T'.heap) (locs := locs ++ Lx) (cells := 0 + 1) (slots := 0 + 6) (ls := ls) (rest := rest) (Qc := fun _ _ _ _ => False) (XC := fun E' st t => E' = E ∧ wd D cy kd ad N I2 L2 t.heap ∧ va_F (AA ad N) st t) (free := AA ad N) (pc := pc) (E := E) (ce := ce) (q := q) (mc := 1) (ms := 6) (fun x hx => (hno x hx).elim) hlocks (by rw [e1]; exact hce) hcv hcl (fun U hU _ => ⟨rfl, by rw [hU, e1]; exact hwd, hF U hU⟩) (fun z hz => by
      rcases List.mem_append.mp hz with h | h
      · exact hS.2.2 z h
      · exact hL z h) (Nat.le_of_ble_eq_true rfl) (Nat.le_of_ble_eq_true rfl) T' rfl X'
    exact ⟨t2, st.trans a1, b1⟩
theorem cx_of {l : Launch} (hlt : l.stackTraces = false) {kd : KdT} {N : Nat} {y : MethodName} {cc : ByteArray} {nL : Nat} {ret : Option FieldType} {rm : Room} {own : String} {F : Ft} {P : List En} (hy : plainName y.cls = true) (hown : own = y.cls) (hob : own = "BladeDesk") (hkd : kdOK kd N) (hF : FOK own F) (hP : okP cc own P = true) (hloc : P.all (fun q => locB nL q.2.1) = true) (hrb : P.all (fun q => retB ret q.2.1) = true) {av : List Value} {I I2 : IM} {L L2 : LM} {E0 : String} (hlen : Nat.ble (lg_sl av).length nL = true)
    (body : ∀ V : Nat → LV → List Value → IM → LM → Prop, Rx l kd N own cc rm F P V E0 I2 L2 → V 0 (lv_args 0 av) [] I L) : CX l kd N y cc nL ret rm av I L E0 I2 L2 := by
  intro D cy ad hinj
  refine vx_ofW (cc := cc) (maxL := nL) (ret := ret) hy rfl ?_
  intro p e s m args below meth c s₁ B hml hno hv
  obtain ⟨rfl, hW, hK, hEX⟩ := hv
  have hts : ∀ w ∈ WB, w.before (av.map (cz ad)).toArray s = true := fun w hw => atoms_spec (ws := wsY y cc nL ret) B.pre w (List.mem_cons_of_mem _ hw)
  have hnm : s.vm.findClass own = some m.cls := by rw [hown]; exact findClass_of_methodNamed B.named
  have hlocks := B.notSynchronized
  have hx := B.exec
  have hb := B.bytes
  have hC : Cx p s m (av.map (cz ad)).toArray c cc nL own D cy kd ad N := ⟨hx, hb, hml, hnm, hts, hK, hinj, hkd⟩
  have hl := lv_entry (av.map (cz ad)) (n := nL) (by rw [lgsl_map]; exact Nat.ble_eq.mp hlen)
  rw [lg_entry_eq]
  generalize (lg_sl (av.map (cz ad)) ++ List.replicate (nL - (lg_sl (av.map (cz ad))).length) Slot.unset).toArray = ls at hl ⊢
  rw [lvargs_map] at hl
  refine body (VV p l e rm s m (av.map (cz ad)).toArray below meth c (vx_MQ below (fun _ _ _ _ => False) (fun E st t => E = E0 ∧ wd D cy kd ad N I2 L2 t.heap ∧ va_F (AA ad N) st t) (av.map (cz ad)).toArray s 1 6 (AA ad N)) nL D cy kd ad N) ⟨ru_of hC hF hP hloc hrb (fun _ _ _ _ _ _ _ _ _ h => h.elim), ?_, ?_, ?_, ?_⟩ s.heap [] ls hW va_S.rf hl
  · intro pc ik is ic cls tx rest lv J K ⟨d0, d3, d4, d6, d9⟩ htx ⟨x0, x1, x2, x3⟩ hfr hlo hce hsl ⟨rfl, rfl, rfl⟩ H locs ls hW hS hl
    obtain ⟨sa, hsa⟩ := hEX.2.2.1 _ htx
    subst hob
    exact vx_throwS (names := exN) (sa := sa) (A := AA ad N) hx hb hlt hnm x0 (by decide +kernel) (hts _ x1) (hts _ x2) hsa (fun w hw => (x3 w hw).elim (hts w) (fun z => (hEX.2.2.2.use z).1)) (fun w hw => by
      rcases List.mem_cons.mp hw with rfl | hw
      · exact WB_ot x1
      · rcases List.mem_cons.mp hw with rfl | hw
        · exact WB_ot x2
        · exact (x3 w hw).elim WB_ot (fun z => (hEX.2.2.2.use (A := #[]) z).2)) hEX.1 hEX.2.1 hS (hl.1.trans hml.symm) d0 d3 d4 d6 d9 (fun x hx => (hno x hx).elim) hfr (by rw [cz_sum]; exact hlo) (by rw [Nat.zero_add]; exact hce) (by rw [Nat.zero_add]; exact hsl) hlocks (fun t hA hz hk => ⟨rfl, wd_kept hW (fun i hi => hk _ (by
          have := (hW i hi).lt
          exact this)), Nat.le_trans hS.1 hz, fun q h1 h2 => (hk q (Nat.lt_of_lt_of_le h1 hS.1)).trans (hS.2.1 q h1 h2)⟩) hS.2.2 (Nat.le_of_ble_eq_true rfl) (Nat.le_of_ble_eq_true rfl)
  · intro pc ik is ic cls tx rest lv J K ⟨d0, d3, d4, d6, d9⟩ htx ⟨x0, x1, x2, x3⟩ hfr hlo hce hsl ⟨rfl, rfl, rfl⟩ H locs ls hW hS hl
    obtain ⟨sa, hsa⟩ := hEX.2.2.1 _ htx
    subst hob
    exact vx_throwSW (names := exN) (sa := sa) (A := AA ad N) hx hb hlt hnm x0 (by decide +kernel) (hts _ x1) (hts _ x2) hsa (fun w hw => (x3 w hw).elim (hts w) (fun z => (hEX.2.2.2.use z).1)) (fun w hw => by
      rcases List.mem_cons.mp hw with rfl | hw
      · exact WB_ot x1
      · rcases List.mem_cons.mp hw with rfl | hw
        · exact WB_ot x2
        · exact (x3 w hw).elim WB_ot (fun z => (hEX.2.2.2.use (A := #[]) z).2)) hEX.1 hEX.2.1 hS (hl.1.trans hml.symm) d0 d3 d4 d6 d9 (fun x hx => (hno x hx).elim) hfr (by rw [cz_sum]; exact hlo) (by rw [Nat.zero_add]; exact hce) (by rw [Nat.zero_add]; exact hsl) hlocks (fun t hA hz hk => ⟨rfl, wd_kept hW (fun i hi => hk _ (by
          have := (hW i hi).lt
          exact this)), Nat.le_trans hS.1 hz, fun q h1 h2 => (hk q (Nat.lt_of_lt_of_le h1 hS.1)).trans (hS.2.1 q h1 h2)⟩) hS.2.2 (Nat.le_of_ble_eq_true rfl) (Nat.le_of_ble_eq_true rfl)
  · intro pc ix np tg cv y2 bytes2 maxL2 ret2 rm2 av2 rest lv J K hl2 hs hrm hM hcat H locs ls hW hS hl
    obtain ⟨hd, hnp, -⟩ := insOK_of hP hl2
    obtain ⟨⟨h1, h2, h3, h4⟩, hdd⟩ := hs
    obtain ⟨r1, r2, r3, r4, r5, r6⟩ := rmX_of hrm
    refine vx_outw (rest := rest.map (cz ad)) (Qn := fun _ _ _ => False) (fun _ _ _ h => h) ?_ hno hlocks hS
    refine vx_runS (n := av2.length) ⟨hx, hb, hml, hnm, hts⟩ (hM D cy ad hinj) (va_cwS av2.length hts (gIn (fun w hw => ?_)) rfl r1 r2 hdd ⟨r3, r4⟩) ⟨fun a U g mk q => ?_, fun U hU hWm => ⟨rfl, by rw [hU]; exact hW, va_K.moved hWm.alike hK, hEX.moved hWm (fun a h1 h2 => by rw [hU]; exact hS.2.1 a h1 h2)⟩⟩ rfl (by simp) hl.1 (by simp) (lv_room (by rw [cz_sum]; exact hcat)) hd ⟨by rw [Nat.zero_add]; exact r5, by rw [Nat.zero_add]; exact r6⟩
    · rcases List.mem_append.mp hw with h | h
      · simp only [List.mem_cons, List.not_mem_nil, or_false] at h
        rcases h with rfl | rfl | rfl
        · exact h1
        · exact h2
        · exact h3
      · rcases List.mem_cons.mp h with rfl | h
        · exact h4
        · exact h
    · obtain ⟨q0, qW, qK, qE⟩ := q
      exact ⟨q0, qW, va_K.moved (u := U) (U := U.calling g mk a) (Vm.Alike.refl U.vm) qK, ⟨qE.1.moved (U := U.calling g mk a) (Vm.Alike.refl U.vm), qE.2.1.moved (U := U.calling g mk a) (Vm.Alike.refl U.vm), fun z hz => by
        obtain ⟨sa, h1⟩ := qE.2.2.1 z hz
        exact ⟨sa, h1.same rfl⟩, qE.2.2.2.same rfl⟩⟩
  · intro pc ix np tg cv y2 bytes2 maxL2 ret2 rm2 av2 rest lv J K i ci b T NF hl2 hs hrm hk1 hcl hM hcat H locs ls hW hS hl
    obtain ⟨hd, hnp, -⟩ := insOK_of hP hl2
    obtain ⟨hlt2, hPo⟩ := wd_obj (ci := 0) hC hW hk1
    obtain ⟨⟨h1, h2, h3, h4, h5⟩, hdd⟩ := hs
    obtain ⟨r1, r2, r3, r4, r5, r6⟩ := rmX_of hrm
    refine vx_outw (rest := rest.map (cz ad)) (Qn := fun _ _ _ => False) (fun _ _ _ h => h) ?_ hno hlocks hS
    refine vx_runV (n := av2.length) (b := ad i) (C := y2.cls) ⟨hx, hb, hml, hnm, hts⟩ (hM D cy ad hinj) (cwV av2.length hts (gIn (fun w hw => ?_)) rfl r1 r2 hdd ⟨r3, r4⟩) ⟨fun a U g mk q => ?_, va_recv hK hPo (ci := ci) (q0 := 0) hcl rfl, fun U hU hWm => ⟨rfl, by rw [hU]; exact hW, va_K.moved hWm.alike hK, hEX.moved hWm (fun a h1 h2 => by rw [hU]; exact hS.2.1 a h1 h2)⟩⟩ rfl (by simp) hl.1 (by simp [cz]) (lv_room (by rw [cz_sum]; exact hcat)) hd ⟨by rw [Nat.zero_add]; exact r5, by rw [Nat.zero_add]; exact r6⟩
    · rcases List.mem_append.mp hw with h | h
      · simp only [List.mem_cons, List.not_mem_nil, or_false] at h
        rcases h with rfl | rfl | rfl | rfl
        · exact h1
        · exact h2
        · exact h3
        · exact h4
      · rcases List.mem_cons.mp h with rfl | h
        · exact h5
        · exact h
    · obtain ⟨q0, qW, qK, qE⟩ := q
      exact ⟨q0, qW, va_K.moved (u := U) (U := U.calling g mk a) (Vm.Alike.refl U.vm) qK, ⟨qE.1.moved (U := U.calling g mk a) (Vm.Alike.refl U.vm), qE.2.1.moved (U := U.calling g mk a) (Vm.Alike.refl U.vm), fun z hz => by
        obtain ⟨sa, h1⟩ := qE.2.2.1 z hz
        exact ⟨sa, h1.same rfl⟩, qE.2.2.2.same rfl⟩⟩
end
section
/-! THROWS: sites, words, heads -/
abbrev exA : String := "java/lang/IllegalArgumentException"
theorem excA : ExcOK 63 67 exA := ⟨by decide +kernel, by decide +kernel, by decide +kernel, by decide +kernel⟩
abbrev exS : String := "java/lang/IllegalStateException"
theorem excS : ExcOK 157 161 exS := ⟨by decide +kernel, by decide +kernel, by decide +kernel, by decide +kernel⟩
abbrev exB : String := "java/lang/IndexOutOfBoundsException"
theorem excB : ExcOK 301 305 exB := ⟨by decide +kernel, by decide +kernel, by decide +kernel, by decide +kernel⟩
theorem thX7_begin_10 : ThrS cX7_begin 10 63 65 67 := ⟨by decide +kernel, by decide +kernel, by decide +kernel, by decide +kernel, by decide +kernel⟩
theorem thX7_requireDirection_15 : ThrW cX7_requireDirection 15 301 308 305 := ⟨by decide +kernel, by decide +kernel, by decide +kernel, by decide +kernel, by decide +kernel⟩
theorem thX7_sign_15 : ThrS cX7_sign 15 63 84 67 := ⟨by decide +kernel, by decide +kernel, by decide +kernel, by decide +kernel, by decide +kernel⟩
theorem thX7_requireSize_11 : ThrW cX7_requireSize 11 63 316 67 := ⟨by decide +kernel, by decide +kernel, by decide +kernel, by decide +kernel, by decide +kernel⟩
theorem thX7_requireSlot_10 : ThrW cX7_requireSlot 10 301 303 305 := ⟨by decide +kernel, by decide +kernel, by decide +kernel, by decide +kernel, by decide +kernel⟩
theorem thX7_requireBlade_15 : ThrW cX7_requireBlade 15 301 306 305 := ⟨by decide +kernel, by decide +kernel, by decide +kernel, by decide +kernel, by decide +kernel⟩
theorem thX7_requireFits_9 : ThrW cX7_requireFits 9 157 322 161 := ⟨by decide +kernel, by decide +kernel, by decide +kernel, by decide +kernel, by decide +kernel⟩
theorem thX7_requireGrade_15 : ThrW cX7_requireGrade 15 63 312 67 := ⟨by decide +kernel, by decide +kernel, by decide +kernel, by decide +kernel, by decide +kernel⟩
theorem thX7_append_12 : ThrS cX7_append 12 63 155 67 := ⟨by decide +kernel, by decide +kernel, by decide +kernel, by decide +kernel, by decide +kernel⟩
theorem thX7_append_31 : ThrS cX7_append 31 157 159 161 := ⟨by decide +kernel, by decide +kernel, by decide +kernel, by decide +kernel, by decide +kernel⟩
theorem thX7_put_45 : ThrS cX7_put 45 63 170 67 := ⟨by decide +kernel, by decide +kernel, by decide +kernel, by decide +kernel, by decide +kernel⟩
theorem thX7_requireSnapshot_9 : ThrW cX7_requireSnapshot 9 301 310 305 := ⟨by decide +kernel, by decide +kernel, by decide +kernel, by decide +kernel, by decide +kernel⟩
theorem thX7_restore_13 : ThrS cX7_restore 13 157 196 161 := ⟨by decide +kernel, by decide +kernel, by decide +kernel, by decide +kernel, by decide +kernel⟩
theorem thX7_undo_10 : ThrS cX7_undo 10 157 201 161 := ⟨by decide +kernel, by decide +kernel, by decide +kernel, by decide +kernel, by decide +kernel⟩
theorem thX7_form_14 : ThrS cX7_form 14 63 206 67 := ⟨by decide +kernel, by decide +kernel, by decide +kernel, by decide +kernel, by decide +kernel⟩
theorem thX7_decomposable_13 : ThrS cX7_decomposable 13 63 216 67 := ⟨by decide +kernel, by decide +kernel, by decide +kernel, by decide +kernel, by decide +kernel⟩
theorem thX7_requirePlace_9 : ThrW cX7_requirePlace 9 63 314 67 := ⟨by decide +kernel, by decide +kernel, by decide +kernel, by decide +kernel, by decide +kernel⟩
theorem thX7_refused_126 : ThrS cX7_refused 126 63 241 67 := ⟨by decide +kernel, by decide +kernel, by decide +kernel, by decide +kernel, by decide +kernel⟩
theorem thX7_count_181 : ThrW cX7_count 181 63 272 67 := ⟨by decide +kernel, by decide +kernel, by decide +kernel, by decide +kernel, by decide +kernel⟩
abbrev rxX7_begin : Room := { frames := 6, cells := 1, slots := 6, locals := 82 }
abbrev TX7_begin (l : Launch) (av : List Value) (I : IM) (L : LM) (E0 : String) (I2 : IM) (L2 : LM) : Prop := CX l kdC 181 yX7_begin cX7_begin 3 (some .int) rxX7_begin av I L E0 I2 L2
theorem vX7_begin (l : Launch) (hlt : l.stackTraces = false) {av : List Value} {I : IM} {L : LM} {E0 : String} {I2 : IM} {L2 : LM} (hlen : Nat.ble (lg_sl av).length 3 = true) (body : ∀ V : Nat → LV → List Value → IM → LM → Prop, Rx l kdC 181 RX7 cX7_begin rxX7_begin FX7 tX7_begin V E0 I2 L2 → V 0 (lv_args 0 av) [] I L) : TX7_begin l av I L E0 I2 L2 := cx_of hlt (y := yX7_begin) (cc := cX7_begin) (nL := 3) (ret := (some .int)) (rm := rxX7_begin) (own := RX7) (F := FX7) (P := tX7_begin) (by decide +kernel) rfl rfl kdC_ok fokX7 okX7_begin (by decide +kernel) (by decide +kernel) hlen body
abbrev rxX7_requireDirection : Room := { frames := 6, cells := 1, slots := 6, locals := 82 }
abbrev TX7_requireDirection (l : Launch) (av : List Value) (I : IM) (L : LM) (E0 : String) (I2 : IM) (L2 : LM) : Prop := CX l kdC 181 yX7_requireDirection cX7_requireDirection 2 none rxX7_requireDirection av I L E0 I2 L2
theorem vX7_requireDirection (l : Launch) (hlt : l.stackTraces = false) {av : List Value} {I : IM} {L : LM} {E0 : String} {I2 : IM} {L2 : LM} (hlen : Nat.ble (lg_sl av).length 2 = true) (body : ∀ V : Nat → LV → List Value → IM → LM → Prop, Rx l kdC 181 RX7 cX7_requireDirection rxX7_requireDirection FX7 tX7_requireDirection V E0 I2 L2 → V 0 (lv_args 0 av) [] I L) : TX7_requireDirection l av I L E0 I2 L2 := cx_of hlt (y := yX7_requireDirection) (cc := cX7_requireDirection) (nL := 2) (ret := none) (rm := rxX7_requireDirection) (own := RX7) (F := FX7) (P := tX7_requireDirection) (by decide +kernel) rfl rfl kdC_ok fokX7 okX7_requireDirection (by decide +kernel) (by decide +kernel) hlen body
abbrev rxX7_sign : Room := { frames := 7, cells := 1, slots := 6, locals := 103 }
abbrev TX7_sign (l : Launch) (av : List Value) (I : IM) (L : LM) (E0 : String) (I2 : IM) (L2 : LM) : Prop := CX l kdC 181 yX7_sign cX7_sign 4 (some .int) rxX7_sign av I L E0 I2 L2
theorem vX7_sign (l : Launch) (hlt : l.stackTraces = false) {av : List Value} {I : IM} {L : LM} {E0 : String} {I2 : IM} {L2 : LM} (hlen : Nat.ble (lg_sl av).length 4 = true) (body : ∀ V : Nat → LV → List Value → IM → LM → Prop, Rx l kdC 181 RX7 cX7_sign rxX7_sign FX7 tX7_sign V E0 I2 L2 → V 0 (lv_args 0 av) [] I L) : TX7_sign l av I L E0 I2 L2 := cx_of hlt (y := yX7_sign) (cc := cX7_sign) (nL := 4) (ret := (some .int)) (rm := rxX7_sign) (own := RX7) (F := FX7) (P := tX7_sign) (by decide +kernel) rfl rfl kdC_ok fokX7 okX7_sign (by decide +kernel) (by decide +kernel) hlen body
abbrev rxX7_requireSize : Room := { frames := 6, cells := 1, slots := 6, locals := 82 }
abbrev TX7_requireSize (l : Launch) (av : List Value) (I : IM) (L : LM) (E0 : String) (I2 : IM) (L2 : LM) : Prop := CX l kdC 181 yX7_requireSize cX7_requireSize 2 none rxX7_requireSize av I L E0 I2 L2
theorem vX7_requireSize (l : Launch) (hlt : l.stackTraces = false) {av : List Value} {I : IM} {L : LM} {E0 : String} {I2 : IM} {L2 : LM} (hlen : Nat.ble (lg_sl av).length 2 = true) (body : ∀ V : Nat → LV → List Value → IM → LM → Prop, Rx l kdC 181 RX7 cX7_requireSize rxX7_requireSize FX7 tX7_requireSize V E0 I2 L2 → V 0 (lv_args 0 av) [] I L) : TX7_requireSize l av I L E0 I2 L2 := cx_of hlt (y := yX7_requireSize) (cc := cX7_requireSize) (nL := 2) (ret := none) (rm := rxX7_requireSize) (own := RX7) (F := FX7) (P := tX7_requireSize) (by decide +kernel) rfl rfl kdC_ok fokX7 okX7_requireSize (by decide +kernel) (by decide +kernel) hlen body
abbrev rxX7_matrix : Room := { frames := 7, cells := 1, slots := 6, locals := 103 }
abbrev TX7_matrix (l : Launch) (av : List Value) (I : IM) (L : LM) (E0 : String) (I2 : IM) (L2 : LM) : Prop := CX l kdC 181 yX7_matrix cX7_matrix 5 (some .int) rxX7_matrix av I L E0 I2 L2
theorem vX7_matrix (l : Launch) (hlt : l.stackTraces = false) {av : List Value} {I : IM} {L : LM} {E0 : String} {I2 : IM} {L2 : LM} (hlen : Nat.ble (lg_sl av).length 5 = true) (body : ∀ V : Nat → LV → List Value → IM → LM → Prop, Rx l kdC 181 RX7 cX7_matrix rxX7_matrix FX7 tX7_matrix V E0 I2 L2 → V 0 (lv_args 0 av) [] I L) : TX7_matrix l av I L E0 I2 L2 := cx_of hlt (y := yX7_matrix) (cc := cX7_matrix) (nL := 5) (ret := (some .int)) (rm := rxX7_matrix) (own := RX7) (F := FX7) (P := tX7_matrix) (by decide +kernel) rfl rfl kdC_ok fokX7 okX7_matrix (by decide +kernel) (by decide +kernel) hlen body
abbrev rxX7_requireSlot : Room := { frames := 6, cells := 1, slots := 6, locals := 82 }
abbrev TX7_requireSlot (l : Launch) (av : List Value) (I : IM) (L : LM) (E0 : String) (I2 : IM) (L2 : LM) : Prop := CX l kdC 181 yX7_requireSlot cX7_requireSlot 1 none rxX7_requireSlot av I L E0 I2 L2
theorem vX7_requireSlot (l : Launch) (hlt : l.stackTraces = false) {av : List Value} {I : IM} {L : LM} {E0 : String} {I2 : IM} {L2 : LM} (hlen : Nat.ble (lg_sl av).length 1 = true) (body : ∀ V : Nat → LV → List Value → IM → LM → Prop, Rx l kdC 181 RX7 cX7_requireSlot rxX7_requireSlot FX7 tX7_requireSlot V E0 I2 L2 → V 0 (lv_args 0 av) [] I L) : TX7_requireSlot l av I L E0 I2 L2 := cx_of hlt (y := yX7_requireSlot) (cc := cX7_requireSlot) (nL := 1) (ret := none) (rm := rxX7_requireSlot) (own := RX7) (F := FX7) (P := tX7_requireSlot) (by decide +kernel) rfl rfl kdC_ok fokX7 okX7_requireSlot (by decide +kernel) (by decide +kernel) hlen body
abbrev rxX7_requireBlade : Room := { frames := 6, cells := 1, slots := 6, locals := 82 }
abbrev TX7_requireBlade (l : Launch) (av : List Value) (I : IM) (L : LM) (E0 : String) (I2 : IM) (L2 : LM) : Prop := CX l kdC 181 yX7_requireBlade cX7_requireBlade 2 none rxX7_requireBlade av I L E0 I2 L2
theorem vX7_requireBlade (l : Launch) (hlt : l.stackTraces = false) {av : List Value} {I : IM} {L : LM} {E0 : String} {I2 : IM} {L2 : LM} (hlen : Nat.ble (lg_sl av).length 2 = true) (body : ∀ V : Nat → LV → List Value → IM → LM → Prop, Rx l kdC 181 RX7 cX7_requireBlade rxX7_requireBlade FX7 tX7_requireBlade V E0 I2 L2 → V 0 (lv_args 0 av) [] I L) : TX7_requireBlade l av I L E0 I2 L2 := cx_of hlt (y := yX7_requireBlade) (cc := cX7_requireBlade) (nL := 2) (ret := none) (rm := rxX7_requireBlade) (own := RX7) (F := FX7) (P := tX7_requireBlade) (by decide +kernel) rfl rfl kdC_ok fokX7 okX7_requireBlade (by decide +kernel) (by decide +kernel) hlen body
abbrev rxX7_set : Room := { frames := 7, cells := 1, slots := 6, locals := 103 }
abbrev TX7_set (l : Launch) (av : List Value) (I : IM) (L : LM) (E0 : String) (I2 : IM) (L2 : LM) : Prop := CX l kdC 181 yX7_set cX7_set 5 (some .int) rxX7_set av I L E0 I2 L2
theorem vX7_set (l : Launch) (hlt : l.stackTraces = false) {av : List Value} {I : IM} {L : LM} {E0 : String} {I2 : IM} {L2 : LM} (hlen : Nat.ble (lg_sl av).length 5 = true) (body : ∀ V : Nat → LV → List Value → IM → LM → Prop, Rx l kdC 181 RX7 cX7_set rxX7_set FX7 tX7_set V E0 I2 L2 → V 0 (lv_args 0 av) [] I L) : TX7_set l av I L E0 I2 L2 := cx_of hlt (y := yX7_set) (cc := cX7_set) (nL := 5) (ret := (some .int)) (rm := rxX7_set) (own := RX7) (F := FX7) (P := tX7_set) (by decide +kernel) rfl rfl kdC_ok fokX7 okX7_set (by decide +kernel) (by decide +kernel) hlen body
abbrev rxX7_requireSlots : Room := { frames := 7, cells := 1, slots := 6, locals := 102 }
abbrev TX7_requireSlots (l : Launch) (av : List Value) (I : IM) (L : LM) (E0 : String) (I2 : IM) (L2 : LM) : Prop := CX l kdC 181 yX7_requireSlots cX7_requireSlots 3 none rxX7_requireSlots av I L E0 I2 L2
theorem vX7_requireSlots (l : Launch) (hlt : l.stackTraces = false) {av : List Value} {I : IM} {L : LM} {E0 : String} {I2 : IM} {L2 : LM} (hlen : Nat.ble (lg_sl av).length 3 = true) (body : ∀ V : Nat → LV → List Value → IM → LM → Prop, Rx l kdC 181 RX7 cX7_requireSlots rxX7_requireSlots FX7 tX7_requireSlots V E0 I2 L2 → V 0 (lv_args 0 av) [] I L) : TX7_requireSlots l av I L E0 I2 L2 := cx_of hlt (y := yX7_requireSlots) (cc := cX7_requireSlots) (nL := 3) (ret := none) (rm := rxX7_requireSlots) (own := RX7) (F := FX7) (P := tX7_requireSlots) (by decide +kernel) rfl rfl kdC_ok fokX7 okX7_requireSlots (by decide +kernel) (by decide +kernel) hlen body
abbrev rxX7_requireFits : Room := { frames := 6, cells := 1, slots := 6, locals := 82 }
abbrev TX7_requireFits (l : Launch) (av : List Value) (I : IM) (L : LM) (E0 : String) (I2 : IM) (L2 : LM) : Prop := CX l kdC 181 yX7_requireFits cX7_requireFits 1 none rxX7_requireFits av I L E0 I2 L2
theorem vX7_requireFits (l : Launch) (hlt : l.stackTraces = false) {av : List Value} {I : IM} {L : LM} {E0 : String} {I2 : IM} {L2 : LM} (hlen : Nat.ble (lg_sl av).length 1 = true) (body : ∀ V : Nat → LV → List Value → IM → LM → Prop, Rx l kdC 181 RX7 cX7_requireFits rxX7_requireFits FX7 tX7_requireFits V E0 I2 L2 → V 0 (lv_args 0 av) [] I L) : TX7_requireFits l av I L E0 I2 L2 := cx_of hlt (y := yX7_requireFits) (cc := cX7_requireFits) (nL := 1) (ret := none) (rm := rxX7_requireFits) (own := RX7) (F := FX7) (P := tX7_requireFits) (by decide +kernel) rfl rfl kdC_ok fokX7 okX7_requireFits (by decide +kernel) (by decide +kernel) hlen body
abbrev rxX7_sum : Room := { frames := 8, cells := 1, slots := 6, locals := 124 }
abbrev TX7_sum (l : Launch) (av : List Value) (I : IM) (L : LM) (E0 : String) (I2 : IM) (L2 : LM) : Prop := CX l kdC 181 yX7_sum cX7_sum 4 (some .int) rxX7_sum av I L E0 I2 L2
theorem vX7_sum (l : Launch) (hlt : l.stackTraces = false) {av : List Value} {I : IM} {L : LM} {E0 : String} {I2 : IM} {L2 : LM} (hlen : Nat.ble (lg_sl av).length 4 = true) (body : ∀ V : Nat → LV → List Value → IM → LM → Prop, Rx l kdC 181 RX7 cX7_sum rxX7_sum FX7 tX7_sum V E0 I2 L2 → V 0 (lv_args 0 av) [] I L) : TX7_sum l av I L E0 I2 L2 := cx_of hlt (y := yX7_sum) (cc := cX7_sum) (nL := 4) (ret := (some .int)) (rm := rxX7_sum) (own := RX7) (F := FX7) (P := tX7_sum) (by decide +kernel) rfl rfl kdC_ok fokX7 okX7_sum (by decide +kernel) (by decide +kernel) hlen body
abbrev rxX7_scale : Room := { frames := 7, cells := 1, slots := 6, locals := 103 }
abbrev TX7_scale (l : Launch) (av : List Value) (I : IM) (L : LM) (E0 : String) (I2 : IM) (L2 : LM) : Prop := CX l kdC 181 yX7_scale cX7_scale 4 (some .int) rxX7_scale av I L E0 I2 L2
theorem vX7_scale (l : Launch) (hlt : l.stackTraces = false) {av : List Value} {I : IM} {L : LM} {E0 : String} {I2 : IM} {L2 : LM} (hlen : Nat.ble (lg_sl av).length 4 = true) (body : ∀ V : Nat → LV → List Value → IM → LM → Prop, Rx l kdC 181 RX7 cX7_scale rxX7_scale FX7 tX7_scale V E0 I2 L2 → V 0 (lv_args 0 av) [] I L) : TX7_scale l av I L E0 I2 L2 := cx_of hlt (y := yX7_scale) (cc := cX7_scale) (nL := 4) (ret := (some .int)) (rm := rxX7_scale) (own := RX7) (F := FX7) (P := tX7_scale) (by decide +kernel) rfl rfl kdC_ok fokX7 okX7_scale (by decide +kernel) (by decide +kernel) hlen body
abbrev rxX7_wedge : Room := { frames := 8, cells := 1, slots := 6, locals := 124 }
abbrev TX7_wedge (l : Launch) (av : List Value) (I : IM) (L : LM) (E0 : String) (I2 : IM) (L2 : LM) : Prop := CX l kdC 181 yX7_wedge cX7_wedge 4 (some .int) rxX7_wedge av I L E0 I2 L2
theorem vX7_wedge (l : Launch) (hlt : l.stackTraces = false) {av : List Value} {I : IM} {L : LM} {E0 : String} {I2 : IM} {L2 : LM} (hlen : Nat.ble (lg_sl av).length 4 = true) (body : ∀ V : Nat → LV → List Value → IM → LM → Prop, Rx l kdC 181 RX7 cX7_wedge rxX7_wedge FX7 tX7_wedge V E0 I2 L2 → V 0 (lv_args 0 av) [] I L) : TX7_wedge l av I L E0 I2 L2 := cx_of hlt (y := yX7_wedge) (cc := cX7_wedge) (nL := 4) (ret := (some .int)) (rm := rxX7_wedge) (own := RX7) (F := FX7) (P := tX7_wedge) (by decide +kernel) rfl rfl kdC_ok fokX7 okX7_wedge (by decide +kernel) (by decide +kernel) hlen body
abbrev rxX7_contract : Room := { frames := 8, cells := 1, slots := 6, locals := 124 }
abbrev TX7_contract (l : Launch) (av : List Value) (I : IM) (L : LM) (E0 : String) (I2 : IM) (L2 : LM) : Prop := CX l kdC 181 yX7_contract cX7_contract 4 (some .int) rxX7_contract av I L E0 I2 L2
theorem vX7_contract (l : Launch) (hlt : l.stackTraces = false) {av : List Value} {I : IM} {L : LM} {E0 : String} {I2 : IM} {L2 : LM} (hlen : Nat.ble (lg_sl av).length 4 = true) (body : ∀ V : Nat → LV → List Value → IM → LM → Prop, Rx l kdC 181 RX7 cX7_contract rxX7_contract FX7 tX7_contract V E0 I2 L2 → V 0 (lv_args 0 av) [] I L) : TX7_contract l av I L E0 I2 L2 := cx_of hlt (y := yX7_contract) (cc := cX7_contract) (nL := 4) (ret := (some .int)) (rm := rxX7_contract) (own := RX7) (F := FX7) (P := tX7_contract) (by decide +kernel) rfl rfl kdC_ok fokX7 okX7_contract (by decide +kernel) (by decide +kernel) hlen body
abbrev rxX7_star : Room := { frames := 7, cells := 1, slots := 6, locals := 102 }
abbrev TX7_star (l : Launch) (av : List Value) (I : IM) (L : LM) (E0 : String) (I2 : IM) (L2 : LM) : Prop := CX l kdC 181 yX7_star cX7_star 3 (some .int) rxX7_star av I L E0 I2 L2
theorem vX7_star (l : Launch) (hlt : l.stackTraces = false) {av : List Value} {I : IM} {L : LM} {E0 : String} {I2 : IM} {L2 : LM} (hlen : Nat.ble (lg_sl av).length 3 = true) (body : ∀ V : Nat → LV → List Value → IM → LM → Prop, Rx l kdC 181 RX7 cX7_star rxX7_star FX7 tX7_star V E0 I2 L2 → V 0 (lv_args 0 av) [] I L) : TX7_star l av I L E0 I2 L2 := cx_of hlt (y := yX7_star) (cc := cX7_star) (nL := 3) (ret := (some .int)) (rm := rxX7_star) (own := RX7) (F := FX7) (P := tX7_star) (by decide +kernel) rfl rfl kdC_ok fokX7 okX7_star (by decide +kernel) (by decide +kernel) hlen body
abbrev rxX7_requireGrade : Room := { frames := 6, cells := 1, slots := 6, locals := 82 }
abbrev TX7_requireGrade (l : Launch) (av : List Value) (I : IM) (L : LM) (E0 : String) (I2 : IM) (L2 : LM) : Prop := CX l kdC 181 yX7_requireGrade cX7_requireGrade 2 none rxX7_requireGrade av I L E0 I2 L2
theorem vX7_requireGrade (l : Launch) (hlt : l.stackTraces = false) {av : List Value} {I : IM} {L : LM} {E0 : String} {I2 : IM} {L2 : LM} (hlen : Nat.ble (lg_sl av).length 2 = true) (body : ∀ V : Nat → LV → List Value → IM → LM → Prop, Rx l kdC 181 RX7 cX7_requireGrade rxX7_requireGrade FX7 tX7_requireGrade V E0 I2 L2 → V 0 (lv_args 0 av) [] I L) : TX7_requireGrade l av I L E0 I2 L2 := cx_of hlt (y := yX7_requireGrade) (cc := cX7_requireGrade) (nL := 2) (ret := none) (rm := rxX7_requireGrade) (own := RX7) (F := FX7) (P := tX7_requireGrade) (by decide +kernel) rfl rfl kdC_ok fokX7 okX7_requireGrade (by decide +kernel) (by decide +kernel) hlen body
abbrev rxX7_part : Room := { frames := 7, cells := 1, slots := 6, locals := 103 }
abbrev TX7_part (l : Launch) (av : List Value) (I : IM) (L : LM) (E0 : String) (I2 : IM) (L2 : LM) : Prop := CX l kdC 181 yX7_part cX7_part 4 (some .int) rxX7_part av I L E0 I2 L2
theorem vX7_part (l : Launch) (hlt : l.stackTraces = false) {av : List Value} {I : IM} {L : LM} {E0 : String} {I2 : IM} {L2 : LM} (hlen : Nat.ble (lg_sl av).length 4 = true) (body : ∀ V : Nat → LV → List Value → IM → LM → Prop, Rx l kdC 181 RX7 cX7_part rxX7_part FX7 tX7_part V E0 I2 L2 → V 0 (lv_args 0 av) [] I L) : TX7_part l av I L E0 I2 L2 := cx_of hlt (y := yX7_part) (cc := cX7_part) (nL := 4) (ret := (some .int)) (rm := rxX7_part) (own := RX7) (F := FX7) (P := tX7_part) (by decide +kernel) rfl rfl kdC_ok fokX7 okX7_part (by decide +kernel) (by decide +kernel) hlen body
abbrev rxX7_reverse : Room := { frames := 7, cells := 1, slots := 6, locals := 102 }
abbrev TX7_reverse (l : Launch) (av : List Value) (I : IM) (L : LM) (E0 : String) (I2 : IM) (L2 : LM) : Prop := CX l kdC 181 yX7_reverse cX7_reverse 3 (some .int) rxX7_reverse av I L E0 I2 L2
theorem vX7_reverse (l : Launch) (hlt : l.stackTraces = false) {av : List Value} {I : IM} {L : LM} {E0 : String} {I2 : IM} {L2 : LM} (hlen : Nat.ble (lg_sl av).length 3 = true) (body : ∀ V : Nat → LV → List Value → IM → LM → Prop, Rx l kdC 181 RX7 cX7_reverse rxX7_reverse FX7 tX7_reverse V E0 I2 L2 → V 0 (lv_args 0 av) [] I L) : TX7_reverse l av I L E0 I2 L2 := cx_of hlt (y := yX7_reverse) (cc := cX7_reverse) (nL := 3) (ret := (some .int)) (rm := rxX7_reverse) (own := RX7) (F := FX7) (P := tX7_reverse) (by decide +kernel) rfl rfl kdC_ok fokX7 okX7_reverse (by decide +kernel) (by decide +kernel) hlen body
abbrev rxX7_push : Room := { frames := 7, cells := 1, slots := 6, locals := 123 }
abbrev TX7_push (l : Launch) (av : List Value) (I : IM) (L : LM) (E0 : String) (I2 : IM) (L2 : LM) : Prop := CX l kdC 181 yX7_push cX7_push 3 (some .int) rxX7_push av I L E0 I2 L2
theorem vX7_push (l : Launch) (hlt : l.stackTraces = false) {av : List Value} {I : IM} {L : LM} {E0 : String} {I2 : IM} {L2 : LM} (hlen : Nat.ble (lg_sl av).length 3 = true) (body : ∀ V : Nat → LV → List Value → IM → LM → Prop, Rx l kdC 181 RX7 cX7_push rxX7_push FX7 tX7_push V E0 I2 L2 → V 0 (lv_args 0 av) [] I L) : TX7_push l av I L E0 I2 L2 := cx_of hlt (y := yX7_push) (cc := cX7_push) (nL := 3) (ret := (some .int)) (rm := rxX7_push) (own := RX7) (F := FX7) (P := tX7_push) (by decide +kernel) rfl rfl kdC_ok fokX7 okX7_push (by decide +kernel) (by decide +kernel) hlen body
abbrev rxX7_append : Room := { frames := 6, cells := 1, slots := 6, locals := 82 }
abbrev TX7_append (l : Launch) (av : List Value) (I : IM) (L : LM) (E0 : String) (I2 : IM) (L2 : LM) : Prop := CX l kdC 181 yX7_append cX7_append 2 (some .int) rxX7_append av I L E0 I2 L2
theorem vX7_append (l : Launch) (hlt : l.stackTraces = false) {av : List Value} {I : IM} {L : LM} {E0 : String} {I2 : IM} {L2 : LM} (hlen : Nat.ble (lg_sl av).length 2 = true) (body : ∀ V : Nat → LV → List Value → IM → LM → Prop, Rx l kdC 181 RX7 cX7_append rxX7_append FX7 tX7_append V E0 I2 L2 → V 0 (lv_args 0 av) [] I L) : TX7_append l av I L E0 I2 L2 := cx_of hlt (y := yX7_append) (cc := cX7_append) (nL := 2) (ret := (some .int)) (rm := rxX7_append) (own := RX7) (F := FX7) (P := tX7_append) (by decide +kernel) rfl rfl kdC_ok fokX7 okX7_append (by decide +kernel) (by decide +kernel) hlen body
abbrev rxX7_put : Room := { frames := 7, cells := 1, slots := 6, locals := 102 }
abbrev TX7_put (l : Launch) (av : List Value) (I : IM) (L : LM) (E0 : String) (I2 : IM) (L2 : LM) : Prop := CX l kdC 181 yX7_put cX7_put 3 (some .int) rxX7_put av I L E0 I2 L2
theorem vX7_put (l : Launch) (hlt : l.stackTraces = false) {av : List Value} {I : IM} {L : LM} {E0 : String} {I2 : IM} {L2 : LM} (hlen : Nat.ble (lg_sl av).length 3 = true) (body : ∀ V : Nat → LV → List Value → IM → LM → Prop, Rx l kdC 181 RX7 cX7_put rxX7_put FX7 tX7_put V E0 I2 L2 → V 0 (lv_args 0 av) [] I L) : TX7_put l av I L E0 I2 L2 := cx_of hlt (y := yX7_put) (cc := cX7_put) (nL := 3) (ret := (some .int)) (rm := rxX7_put) (own := RX7) (F := FX7) (P := tX7_put) (by decide +kernel) rfl rfl kdC_ok fokX7 okX7_put (by decide +kernel) (by decide +kernel) hlen body
abbrev rxX7_requireSnapshot : Room := { frames := 6, cells := 1, slots := 6, locals := 82 }
abbrev TX7_requireSnapshot (l : Launch) (av : List Value) (I : IM) (L : LM) (E0 : String) (I2 : IM) (L2 : LM) : Prop := CX l kdC 181 yX7_requireSnapshot cX7_requireSnapshot 1 none rxX7_requireSnapshot av I L E0 I2 L2
theorem vX7_requireSnapshot (l : Launch) (hlt : l.stackTraces = false) {av : List Value} {I : IM} {L : LM} {E0 : String} {I2 : IM} {L2 : LM} (hlen : Nat.ble (lg_sl av).length 1 = true) (body : ∀ V : Nat → LV → List Value → IM → LM → Prop, Rx l kdC 181 RX7 cX7_requireSnapshot rxX7_requireSnapshot FX7 tX7_requireSnapshot V E0 I2 L2 → V 0 (lv_args 0 av) [] I L) : TX7_requireSnapshot l av I L E0 I2 L2 := cx_of hlt (y := yX7_requireSnapshot) (cc := cX7_requireSnapshot) (nL := 1) (ret := none) (rm := rxX7_requireSnapshot) (own := RX7) (F := FX7) (P := tX7_requireSnapshot) (by decide +kernel) rfl rfl kdC_ok fokX7 okX7_requireSnapshot (by decide +kernel) (by decide +kernel) hlen body
abbrev rxX7_take : Room := { frames := 7, cells := 1, slots := 6, locals := 102 }
abbrev TX7_take (l : Launch) (av : List Value) (I : IM) (L : LM) (E0 : String) (I2 : IM) (L2 : LM) : Prop := CX l kdC 181 yX7_take cX7_take 2 (some .int) rxX7_take av I L E0 I2 L2
theorem vX7_take (l : Launch) (hlt : l.stackTraces = false) {av : List Value} {I : IM} {L : LM} {E0 : String} {I2 : IM} {L2 : LM} (hlen : Nat.ble (lg_sl av).length 2 = true) (body : ∀ V : Nat → LV → List Value → IM → LM → Prop, Rx l kdC 181 RX7 cX7_take rxX7_take FX7 tX7_take V E0 I2 L2 → V 0 (lv_args 0 av) [] I L) : TX7_take l av I L E0 I2 L2 := cx_of hlt (y := yX7_take) (cc := cX7_take) (nL := 2) (ret := (some .int)) (rm := rxX7_take) (own := RX7) (F := FX7) (P := tX7_take) (by decide +kernel) rfl rfl kdC_ok fokX7 okX7_take (by decide +kernel) (by decide +kernel) hlen body
abbrev rxX7_restore : Room := { frames := 7, cells := 1, slots := 6, locals := 102 }
abbrev TX7_restore (l : Launch) (av : List Value) (I : IM) (L : LM) (E0 : String) (I2 : IM) (L2 : LM) : Prop := CX l kdC 181 yX7_restore cX7_restore 2 (some .int) rxX7_restore av I L E0 I2 L2
theorem vX7_restore (l : Launch) (hlt : l.stackTraces = false) {av : List Value} {I : IM} {L : LM} {E0 : String} {I2 : IM} {L2 : LM} (hlen : Nat.ble (lg_sl av).length 2 = true) (body : ∀ V : Nat → LV → List Value → IM → LM → Prop, Rx l kdC 181 RX7 cX7_restore rxX7_restore FX7 tX7_restore V E0 I2 L2 → V 0 (lv_args 0 av) [] I L) : TX7_restore l av I L E0 I2 L2 := cx_of hlt (y := yX7_restore) (cc := cX7_restore) (nL := 2) (ret := (some .int)) (rm := rxX7_restore) (own := RX7) (F := FX7) (P := tX7_restore) (by decide +kernel) rfl rfl kdC_ok fokX7 okX7_restore (by decide +kernel) (by decide +kernel) hlen body
abbrev rxX7_undo : Room := { frames := 6, cells := 1, slots := 6, locals := 82 }
abbrev TX7_undo (l : Launch) (av : List Value) (I : IM) (L : LM) (E0 : String) (I2 : IM) (L2 : LM) : Prop := CX l kdC 181 yX7_undo cX7_undo 1 (some .int) rxX7_undo av I L E0 I2 L2
theorem vX7_undo (l : Launch) (hlt : l.stackTraces = false) {av : List Value} {I : IM} {L : LM} {E0 : String} {I2 : IM} {L2 : LM} (hlen : Nat.ble (lg_sl av).length 1 = true) (body : ∀ V : Nat → LV → List Value → IM → LM → Prop, Rx l kdC 181 RX7 cX7_undo rxX7_undo FX7 tX7_undo V E0 I2 L2 → V 0 (lv_args 0 av) [] I L) : TX7_undo l av I L E0 I2 L2 := cx_of hlt (y := yX7_undo) (cc := cX7_undo) (nL := 1) (ret := (some .int)) (rm := rxX7_undo) (own := RX7) (F := FX7) (P := tX7_undo) (by decide +kernel) rfl rfl kdC_ok fokX7 okX7_undo (by decide +kernel) (by decide +kernel) hlen body
abbrev rxX7_coefficient : Room := { frames := 7, cells := 1, slots := 6, locals := 103 }
abbrev TX7_coefficient (l : Launch) (av : List Value) (I : IM) (L : LM) (E0 : String) (I2 : IM) (L2 : LM) : Prop := CX l kdC 181 yX7_coefficient cX7_coefficient 3 (some .int) rxX7_coefficient av I L E0 I2 L2
theorem vX7_coefficient (l : Launch) (hlt : l.stackTraces = false) {av : List Value} {I : IM} {L : LM} {E0 : String} {I2 : IM} {L2 : LM} (hlen : Nat.ble (lg_sl av).length 3 = true) (body : ∀ V : Nat → LV → List Value → IM → LM → Prop, Rx l kdC 181 RX7 cX7_coefficient rxX7_coefficient FX7 tX7_coefficient V E0 I2 L2 → V 0 (lv_args 0 av) [] I L) : TX7_coefficient l av I L E0 I2 L2 := cx_of hlt (y := yX7_coefficient) (cc := cX7_coefficient) (nL := 3) (ret := (some .int)) (rm := rxX7_coefficient) (own := RX7) (F := FX7) (P := tX7_coefficient) (by decide +kernel) rfl rfl kdC_ok fokX7 okX7_coefficient (by decide +kernel) (by decide +kernel) hlen body
abbrev rxX7_form : Room := { frames := 7, cells := 1, slots := 6, locals := 102 }
abbrev TX7_form (l : Launch) (av : List Value) (I : IM) (L : LM) (E0 : String) (I2 : IM) (L2 : LM) : Prop := CX l kdC 181 yX7_form cX7_form 3 (some .int) rxX7_form av I L E0 I2 L2
theorem vX7_form (l : Launch) (hlt : l.stackTraces = false) {av : List Value} {I : IM} {L : LM} {E0 : String} {I2 : IM} {L2 : LM} (hlen : Nat.ble (lg_sl av).length 3 = true) (body : ∀ V : Nat → LV → List Value → IM → LM → Prop, Rx l kdC 181 RX7 cX7_form rxX7_form FX7 tX7_form V E0 I2 L2 → V 0 (lv_args 0 av) [] I L) : TX7_form l av I L E0 I2 L2 := cx_of hlt (y := yX7_form) (cc := cX7_form) (nL := 3) (ret := (some .int)) (rm := rxX7_form) (own := RX7) (F := FX7) (P := tX7_form) (by decide +kernel) rfl rfl kdC_ok fokX7 okX7_form (by decide +kernel) (by decide +kernel) hlen body
abbrev rxX7_inner : Room := { frames := 7, cells := 1, slots := 6, locals := 102 }
abbrev TX7_inner (l : Launch) (av : List Value) (I : IM) (L : LM) (E0 : String) (I2 : IM) (L2 : LM) : Prop := CX l kdC 181 yX7_inner cX7_inner 3 (some .long) rxX7_inner av I L E0 I2 L2
theorem vX7_inner (l : Launch) (hlt : l.stackTraces = false) {av : List Value} {I : IM} {L : LM} {E0 : String} {I2 : IM} {L2 : LM} (hlen : Nat.ble (lg_sl av).length 3 = true) (body : ∀ V : Nat → LV → List Value → IM → LM → Prop, Rx l kdC 181 RX7 cX7_inner rxX7_inner FX7 tX7_inner V E0 I2 L2 → V 0 (lv_args 0 av) [] I L) : TX7_inner l av I L E0 I2 L2 := cx_of hlt (y := yX7_inner) (cc := cX7_inner) (nL := 3) (ret := (some .long)) (rm := rxX7_inner) (own := RX7) (F := FX7) (P := tX7_inner) (by decide +kernel) rfl rfl kdC_ok fokX7 okX7_inner (by decide +kernel) (by decide +kernel) hlen body
abbrev rxX7_decomposable : Room := { frames := 7, cells := 1, slots := 6, locals := 144 }
abbrev TX7_decomposable (l : Launch) (av : List Value) (I : IM) (L : LM) (E0 : String) (I2 : IM) (L2 : LM) : Prop := CX l kdC 181 yX7_decomposable cX7_decomposable 3 (some .int) rxX7_decomposable av I L E0 I2 L2
theorem vX7_decomposable (l : Launch) (hlt : l.stackTraces = false) {av : List Value} {I : IM} {L : LM} {E0 : String} {I2 : IM} {L2 : LM} (hlen : Nat.ble (lg_sl av).length 3 = true) (body : ∀ V : Nat → LV → List Value → IM → LM → Prop, Rx l kdC 181 RX7 cX7_decomposable rxX7_decomposable FX7 tX7_decomposable V E0 I2 L2 → V 0 (lv_args 0 av) [] I L) : TX7_decomposable l av I L E0 I2 L2 := cx_of hlt (y := yX7_decomposable) (cc := cX7_decomposable) (nL := 3) (ret := (some .int)) (rm := rxX7_decomposable) (own := RX7) (F := FX7) (P := tX7_decomposable) (by decide +kernel) rfl rfl kdC_ok fokX7 okX7_decomposable (by decide +kernel) (by decide +kernel) hlen body
abbrev rxX7_requirePlace : Room := { frames := 6, cells := 1, slots := 6, locals := 82 }
abbrev TX7_requirePlace (l : Launch) (av : List Value) (I : IM) (L : LM) (E0 : String) (I2 : IM) (L2 : LM) : Prop := CX l kdC 181 yX7_requirePlace cX7_requirePlace 1 none rxX7_requirePlace av I L E0 I2 L2
theorem vX7_requirePlace (l : Launch) (hlt : l.stackTraces = false) {av : List Value} {I : IM} {L : LM} {E0 : String} {I2 : IM} {L2 : LM} (hlen : Nat.ble (lg_sl av).length 1 = true) (body : ∀ V : Nat → LV → List Value → IM → LM → Prop, Rx l kdC 181 RX7 cX7_requirePlace rxX7_requirePlace FX7 tX7_requirePlace V E0 I2 L2 → V 0 (lv_args 0 av) [] I L) : TX7_requirePlace l av I L E0 I2 L2 := cx_of hlt (y := yX7_requirePlace) (cc := cX7_requirePlace) (nL := 1) (ret := none) (rm := rxX7_requirePlace) (own := RX7) (F := FX7) (P := tX7_requirePlace) (by decide +kernel) rfl rfl kdC_ok fokX7 okX7_requirePlace (by decide +kernel) (by decide +kernel) hlen body
abbrev rxX7_factor : Room := { frames := 7, cells := 1, slots := 6, locals := 137 }
abbrev TX7_factor (l : Launch) (av : List Value) (I : IM) (L : LM) (E0 : String) (I2 : IM) (L2 : LM) : Prop := CX l kdC 181 yX7_factor cX7_factor 4 (some .int) rxX7_factor av I L E0 I2 L2
theorem vX7_factor (l : Launch) (hlt : l.stackTraces = false) {av : List Value} {I : IM} {L : LM} {E0 : String} {I2 : IM} {L2 : LM} (hlen : Nat.ble (lg_sl av).length 4 = true) (body : ∀ V : Nat → LV → List Value → IM → LM → Prop, Rx l kdC 181 RX7 cX7_factor rxX7_factor FX7 tX7_factor V E0 I2 L2 → V 0 (lv_args 0 av) [] I L) : TX7_factor l av I L E0 I2 L2 := cx_of hlt (y := yX7_factor) (cc := cX7_factor) (nL := 4) (ret := (some .int)) (rm := rxX7_factor) (own := RX7) (F := FX7) (P := tX7_factor) (by decide +kernel) rfl rfl kdC_ok fokX7 okX7_factor (by decide +kernel) (by decide +kernel) hlen body
abbrev rxX7_annihilator : Room := { frames := 7, cells := 1, slots := 6, locals := 120 }
abbrev TX7_annihilator (l : Launch) (av : List Value) (I : IM) (L : LM) (E0 : String) (I2 : IM) (L2 : LM) : Prop := CX l kdC 181 yX7_annihilator cX7_annihilator 2 (some .int) rxX7_annihilator av I L E0 I2 L2
theorem vX7_annihilator (l : Launch) (hlt : l.stackTraces = false) {av : List Value} {I : IM} {L : LM} {E0 : String} {I2 : IM} {L2 : LM} (hlen : Nat.ble (lg_sl av).length 2 = true) (body : ∀ V : Nat → LV → List Value → IM → LM → Prop, Rx l kdC 181 RX7 cX7_annihilator rxX7_annihilator FX7 tX7_annihilator V E0 I2 L2 → V 0 (lv_args 0 av) [] I L) : TX7_annihilator l av I L E0 I2 L2 := cx_of hlt (y := yX7_annihilator) (cc := cX7_annihilator) (nL := 2) (ret := (some .int)) (rm := rxX7_annihilator) (own := RX7) (F := FX7) (P := tX7_annihilator) (by decide +kernel) rfl rfl kdC_ok fokX7 okX7_annihilator (by decide +kernel) (by decide +kernel) hlen body
abbrev rxX7_basis : Room := { frames := 7, cells := 1, slots := 6, locals := 120 }
abbrev TX7_basis (l : Launch) (av : List Value) (I : IM) (L : LM) (E0 : String) (I2 : IM) (L2 : LM) : Prop := CX l kdC 181 yX7_basis cX7_basis 5 (some .int) rxX7_basis av I L E0 I2 L2
theorem vX7_basis (l : Launch) (hlt : l.stackTraces = false) {av : List Value} {I : IM} {L : LM} {E0 : String} {I2 : IM} {L2 : LM} (hlen : Nat.ble (lg_sl av).length 5 = true) (body : ∀ V : Nat → LV → List Value → IM → LM → Prop, Rx l kdC 181 RX7 cX7_basis rxX7_basis FX7 tX7_basis V E0 I2 L2 → V 0 (lv_args 0 av) [] I L) : TX7_basis l av I L E0 I2 L2 := cx_of hlt (y := yX7_basis) (cc := cX7_basis) (nL := 5) (ret := (some .int)) (rm := rxX7_basis) (own := RX7) (F := FX7) (P := tX7_basis) (by decide +kernel) rfl rfl kdC_ok fokX7 okX7_basis (by decide +kernel) (by decide +kernel) hlen body
abbrev rxX7_refused : Room := { frames := 7, cells := 1, slots := 6, locals := 123 }
abbrev TX7_refused (l : Launch) (av : List Value) (I : IM) (L : LM) (E0 : String) (I2 : IM) (L2 : LM) : Prop := CX l kdC 181 yX7_refused cX7_refused 4 (some .int) rxX7_refused av I L E0 I2 L2
theorem vX7_refused (l : Launch) (hlt : l.stackTraces = false) {av : List Value} {I : IM} {L : LM} {E0 : String} {I2 : IM} {L2 : LM} (hlen : Nat.ble (lg_sl av).length 4 = true) (body : ∀ V : Nat → LV → List Value → IM → LM → Prop, Rx l kdC 181 RX7 cX7_refused rxX7_refused FX7 tX7_refused V E0 I2 L2 → V 0 (lv_args 0 av) [] I L) : TX7_refused l av I L E0 I2 L2 := cx_of hlt (y := yX7_refused) (cc := cX7_refused) (nL := 4) (ret := (some .int)) (rm := rxX7_refused) (own := RX7) (F := FX7) (P := tX7_refused) (by decide +kernel) rfl rfl kdC_ok fokX7 okX7_refused (by decide +kernel) (by decide +kernel) hlen body
abbrev rxX7_compare : Room := { frames := 7, cells := 1, slots := 6, locals := 102 }
abbrev TX7_compare (l : Launch) (av : List Value) (I : IM) (L : LM) (E0 : String) (I2 : IM) (L2 : LM) : Prop := CX l kdC 181 yX7_compare cX7_compare 5 (some .int) rxX7_compare av I L E0 I2 L2
theorem vX7_compare (l : Launch) (hlt : l.stackTraces = false) {av : List Value} {I : IM} {L : LM} {E0 : String} {I2 : IM} {L2 : LM} (hlen : Nat.ble (lg_sl av).length 5 = true) (body : ∀ V : Nat → LV → List Value → IM → LM → Prop, Rx l kdC 181 RX7 cX7_compare rxX7_compare FX7 tX7_compare V E0 I2 L2 → V 0 (lv_args 0 av) [] I L) : TX7_compare l av I L E0 I2 L2 := cx_of hlt (y := yX7_compare) (cc := cX7_compare) (nL := 5) (ret := (some .int)) (rm := rxX7_compare) (own := RX7) (F := FX7) (P := tX7_compare) (by decide +kernel) rfl rfl kdC_ok fokX7 okX7_compare (by decide +kernel) (by decide +kernel) hlen body
abbrev rxX7_count : Room := { frames := 6, cells := 1, slots := 6, locals := 119 }
abbrev TX7_count (l : Launch) (av : List Value) (I : IM) (L : LM) (E0 : String) (I2 : IM) (L2 : LM) : Prop := CX l kdC 181 yX7_count cX7_count 2 (some .int) rxX7_count av I L E0 I2 L2
theorem vX7_count (l : Launch) (hlt : l.stackTraces = false) {av : List Value} {I : IM} {L : LM} {E0 : String} {I2 : IM} {L2 : LM} (hlen : Nat.ble (lg_sl av).length 2 = true) (body : ∀ V : Nat → LV → List Value → IM → LM → Prop, Rx l kdC 181 RX7 cX7_count rxX7_count FX7 tX7_count V E0 I2 L2 → V 0 (lv_args 0 av) [] I L) : TX7_count l av I L E0 I2 L2 := cx_of hlt (y := yX7_count) (cc := cX7_count) (nL := 2) (ret := (some .int)) (rm := rxX7_count) (own := RX7) (F := FX7) (P := tX7_count) (by decide +kernel) rfl rfl kdC_ok fokX7 okX7_count (by decide +kernel) (by decide +kernel) hlen body
abbrev rxX7_matrixAt : Room := { frames := 7, cells := 1, slots := 6, locals := 103 }
abbrev TX7_matrixAt (l : Launch) (av : List Value) (I : IM) (L : LM) (E0 : String) (I2 : IM) (L2 : LM) : Prop := CX l kdC 181 yX7_matrixAt cX7_matrixAt 3 (some .int) rxX7_matrixAt av I L E0 I2 L2
theorem vX7_matrixAt (l : Launch) (hlt : l.stackTraces = false) {av : List Value} {I : IM} {L : LM} {E0 : String} {I2 : IM} {L2 : LM} (hlen : Nat.ble (lg_sl av).length 3 = true) (body : ∀ V : Nat → LV → List Value → IM → LM → Prop, Rx l kdC 181 RX7 cX7_matrixAt rxX7_matrixAt FX7 tX7_matrixAt V E0 I2 L2 → V 0 (lv_args 0 av) [] I L) : TX7_matrixAt l av I L E0 I2 L2 := cx_of hlt (y := yX7_matrixAt) (cc := cX7_matrixAt) (nL := 3) (ret := (some .int)) (rm := rxX7_matrixAt) (own := RX7) (F := FX7) (P := tX7_matrixAt) (by decide +kernel) rfl rfl kdC_ok fokX7 okX7_matrixAt (by decide +kernel) (by decide +kernel) hlen body
abbrev rxX7_density : Room := { frames := 7, cells := 1, slots := 6, locals := 102 }
abbrev TX7_density (l : Launch) (av : List Value) (I : IM) (L : LM) (E0 : String) (I2 : IM) (L2 : LM) : Prop := CX l kdC 181 yX7_density cX7_density 2 (some .float) rxX7_density av I L E0 I2 L2
theorem vX7_density (l : Launch) (hlt : l.stackTraces = false) {av : List Value} {I : IM} {L : LM} {E0 : String} {I2 : IM} {L2 : LM} (hlen : Nat.ble (lg_sl av).length 2 = true) (body : ∀ V : Nat → LV → List Value → IM → LM → Prop, Rx l kdC 181 RX7 cX7_density rxX7_density FX7 tX7_density V E0 I2 L2 → V 0 (lv_args 0 av) [] I L) : TX7_density l av I L E0 I2 L2 := cx_of hlt (y := yX7_density) (cc := cX7_density) (nL := 2) (ret := (some .float)) (rm := rxX7_density) (own := RX7) (F := FX7) (P := tX7_density) (by decide +kernel) rfl rfl kdC_ok fokX7 okX7_density (by decide +kernel) (by decide +kernel) hlen body
abbrev rxX7_share : Room := { frames := 7, cells := 1, slots := 6, locals := 103 }
abbrev TX7_share (l : Launch) (av : List Value) (I : IM) (L : LM) (E0 : String) (I2 : IM) (L2 : LM) : Prop := CX l kdC 181 yX7_share cX7_share 3 (some .double) rxX7_share av I L E0 I2 L2
theorem vX7_share (l : Launch) (hlt : l.stackTraces = false) {av : List Value} {I : IM} {L : LM} {E0 : String} {I2 : IM} {L2 : LM} (hlen : Nat.ble (lg_sl av).length 3 = true) (body : ∀ V : Nat → LV → List Value → IM → LM → Prop, Rx l kdC 181 RX7 cX7_share rxX7_share FX7 tX7_share V E0 I2 L2 → V 0 (lv_args 0 av) [] I L) : TX7_share l av I L E0 I2 L2 := cx_of hlt (y := yX7_share) (cc := cX7_share) (nL := 3) (ret := (some .double)) (rm := rxX7_share) (own := RX7) (F := FX7) (P := tX7_share) (by decide +kernel) rfl rfl kdC_ok fokX7 okX7_share (by decide +kernel) (by decide +kernel) hlen body
abbrev rxX7_hashCounts : Room := { frames := 7, cells := 1, slots := 6, locals := 140 }
abbrev TX7_hashCounts (l : Launch) (av : List Value) (I : IM) (L : LM) (E0 : String) (I2 : IM) (L2 : LM) : Prop := CX l kdC 181 yX7_hashCounts cX7_hashCounts 6 (some .long) rxX7_hashCounts av I L E0 I2 L2
theorem vX7_hashCounts (l : Launch) (hlt : l.stackTraces = false) {av : List Value} {I : IM} {L : LM} {E0 : String} {I2 : IM} {L2 : LM} (hlen : Nat.ble (lg_sl av).length 6 = true) (body : ∀ V : Nat → LV → List Value → IM → LM → Prop, Rx l kdC 181 RX7 cX7_hashCounts rxX7_hashCounts FX7 tX7_hashCounts V E0 I2 L2 → V 0 (lv_args 0 av) [] I L) : TX7_hashCounts l av I L E0 I2 L2 := cx_of hlt (y := yX7_hashCounts) (cc := cX7_hashCounts) (nL := 6) (ret := (some .long)) (rm := rxX7_hashCounts) (own := RX7) (F := FX7) (P := tX7_hashCounts) (by decide +kernel) rfl rfl kdC_ok fokX7 okX7_hashCounts (by decide +kernel) (by decide +kernel) hlen body
abbrev rxX7_hashSlot : Room := { frames := 8, cells := 1, slots := 6, locals := 148 }
abbrev TX7_hashSlot (l : Launch) (av : List Value) (I : IM) (L : LM) (E0 : String) (I2 : IM) (L2 : LM) : Prop := CX l kdC 181 yX7_hashSlot cX7_hashSlot 8 (some .long) rxX7_hashSlot av I L E0 I2 L2
theorem vX7_hashSlot (l : Launch) (hlt : l.stackTraces = false) {av : List Value} {I : IM} {L : LM} {E0 : String} {I2 : IM} {L2 : LM} (hlen : Nat.ble (lg_sl av).length 8 = true) (body : ∀ V : Nat → LV → List Value → IM → LM → Prop, Rx l kdC 181 RX7 cX7_hashSlot rxX7_hashSlot FX7 tX7_hashSlot V E0 I2 L2 → V 0 (lv_args 0 av) [] I L) : TX7_hashSlot l av I L E0 I2 L2 := cx_of hlt (y := yX7_hashSlot) (cc := cX7_hashSlot) (nL := 8) (ret := (some .long)) (rm := rxX7_hashSlot) (own := RX7) (F := FX7) (P := tX7_hashSlot) (by decide +kernel) rfl rfl kdC_ok fokX7 okX7_hashSlot (by decide +kernel) (by decide +kernel) hlen body
abbrev rxX7_digest : Room := { frames := 9, cells := 1, slots := 6, locals := 175 }
abbrev TX7_digest (l : Launch) (av : List Value) (I : IM) (L : LM) (E0 : String) (I2 : IM) (L2 : LM) : Prop := CX l kdC 181 yX7_digest cX7_digest 4 (some .long) rxX7_digest av I L E0 I2 L2
theorem vX7_digest (l : Launch) (hlt : l.stackTraces = false) {av : List Value} {I : IM} {L : LM} {E0 : String} {I2 : IM} {L2 : LM} (hlen : Nat.ble (lg_sl av).length 4 = true) (body : ∀ V : Nat → LV → List Value → IM → LM → Prop, Rx l kdC 181 RX7 cX7_digest rxX7_digest FX7 tX7_digest V E0 I2 L2 → V 0 (lv_args 0 av) [] I L) : TX7_digest l av I L E0 I2 L2 := cx_of hlt (y := yX7_digest) (cc := cX7_digest) (nL := 4) (ret := (some .long)) (rm := rxX7_digest) (own := RX7) (F := FX7) (P := tX7_digest) (by decide +kernel) rfl rfl kdC_ok fokX7 okX7_digest (by decide +kernel) (by decide +kernel) hlen body
/-- a throw that stands here -/
theorem rx_S {l : Launch} {kd : KdT} {N : Nat} {own : String} {cc : ByteArray} {R : Room} {F : Ft} {P : List En} {V : Nat → LV → List Value → IM → LM → Prop} {E0 : String} {I : IM} {L : LM} (hV : Rx l kd N own cc R F P V E0 I L) {pc ik is ic : Nat} (tx : String) {rest : List Value} {lv : LV} (ht : ThrS cc pc ik is ic) (he : ExcOK ik ic E0) (htx : (is, tx) ∈ txts) (hR : (Nat.blt 5 R.frames && (Nat.ble ((rest.map fun v => v.category).sum + 82) R.locals && (Nat.ble 1 R.cells && Nat.ble 6 R.slots))) = true) : V pc lv rest I L := by
  simp only [Bool.and_eq_true, Nat.ble_eq] at hR
  exact hV.2.1 pc ik is ic E0 tx rest lv I L ht htx he (Nat.blt_eq.mp hR.1) hR.2.1 hR.2.2.1 hR.2.2.2 ⟨rfl, rfl, rfl⟩
theorem rx_W {l : Launch} {kd : KdT} {N : Nat} {own : String} {cc : ByteArray} {R : Room} {F : Ft} {P : List En} {V : Nat → LV → List Value → IM → LM → Prop} {E0 : String} {I : IM} {L : LM} (hV : Rx l kd N own cc R F P V E0 I L) {pc ik is ic : Nat} (tx : String) {rest : List Value} {lv : LV} (ht : ThrW cc pc ik is ic) (he : ExcOK ik ic E0) (htx : (is, tx) ∈ txts) (hR : (Nat.blt 5 R.frames && (Nat.ble ((rest.map fun v => v.category).sum + 82) R.locals && (Nat.ble 1 R.cells && Nat.ble 6 R.slots))) = true) : V pc lv rest I L := by
  simp only [Bool.and_eq_true, Nat.ble_eq] at hR
  exact hV.2.2.1 pc ik is ic E0 tx rest lv I L ht htx he (Nat.blt_eq.mp hR.1) hR.2.1 hR.2.2.1 hR.2.2.2 ⟨rfl, rfl, rfl⟩
/-- a call that throws -/
theorem rx_cS {l : Launch} {kd : KdT} {N : Nat} {own : String} {cc : ByteArray} {R : Room} {F : Ft} {P : List En} {V : Nat → LV → List Value → IM → LM → Prop} {E0 : String} {I I2 : IM} {L L2 : LM} (hV : Rx l kd N own cc R F P V E0 I2 L2) {pc ix np tg : Nat} {cv : Value} {y : MethodName} {bytes : ByteArray} {maxL : Nat} {ret : Option FieldType} {rm : Room} {av st : List Value} {lv : LV} (rest : List Value) (hs : SitS own ix y bytes maxL ret av.length) (hM : CX l kd N y bytes maxL ret rm av I L E0 I2 L2) (hl : lk P pc = some (.invokestatic ix, np, tg, cv)) (hrm : RmX rm R maxL = true) (hst : st = av.reverse ++ rest) (hcat : (rest.map fun v => v.category).sum ≤ 8) : V pc lv st I L := by
  subst hst
  exact hV.2.2.2.1 pc ix np tg cv y bytes maxL ret rm av rest lv I L hl hs hrm hM hcat
theorem rx_cV {l : Launch} {kd : KdT} {N : Nat} {own : String} {cc : ByteArray} {R : Room} {F : Ft} {P : List En} {V : Nat → LV → List Value → IM → LM → Prop} {E0 : String} {I I2 : IM} {L L2 : LM} (hV : Rx l kd N own cc R F P V E0 I2 L2) {pc ix np tg i ci b NF : Nat} {T : u_T} {cv : Value} {y : MethodName} {bytes : ByteArray} {maxL : Nat} {ret : Option FieldType} {rm : Room} {av st : List Value} {lv : LV} (rest : List Value) (hs : SitV own ix y bytes maxL ret av.length) (hM : CX l kd N y bytes maxL ret rm (.ref i :: av) I L E0 I2 L2) (hk : kd i = (0, ci, b)) (hc : vwCl[ci]? = some (y.cls, T, NF)) (hl : lk P pc = some (.invokevirtual ix, np, tg, cv)) (hrm : RmX rm R maxL = true) (hst : st = av.reverse ++ .ref i :: rest) (hcat : (rest.map fun v => v.category).sum ≤ 8) : V pc lv st I L := by
  subst hst
  exact hV.2.2.2.2 pc ix np tg cv y bytes maxL ret rm av rest lv I L i ci b T NF hl hs hrm hk hc hM hcat
end
section
/-! PURE WORDS: loops, rows, blades, signs, sums -/
theorem loop0 {P : Nat → Prop} {G : Prop} (e : Nat) (h0 : P 0 → G) (hs : ∀ i, i < e → P (i + 1) → P i) (he : P e) : G := by
  refine h0 ?_
  have : ∀ k i, i + k = e → P i := by
    intro k
    induction k with
    | zero => intro i h; rw [show i = e by omega]; exact he
    | succ k ih => intro i h; exact hs i (by omega) (ih (i + 1) (by omega))
  exact this e 0 (by omega)
/-- a row's first n places laid anew -/
def lay {α : Type} (I : Nat → Nat → α) (c n : Nat) (f : Nat → α) : Nat → Nat → α := mrow I c (cp0 f (I c) n)
section LAY
variable {α : Type} {I : Nat → Nat → α} {c n : Nat} {f g : Nat → α}
theorem lay_0 : lay I c 0 f = I := by
  funext a b
  unfold lay mrow
  by_cases h : a = c
  · rw [if_pos h, h]; simp [cp0]
  · rw [if_neg h]
theorem lay_at (c : Nat) : lay I c n f c = cp0 f (I c) n := by simp [lay, mrow]
theorem lay_in {j : Nat} (h : j < n) : lay I c n f c j = f j := by simp [lay_at, cp0, h]
theorem lay_out {j : Nat} (h : n ≤ j) : lay I c n f c j = I c j := by simp [lay_at, cp0, Nat.not_lt.mpr h]
theorem lay_ne {a : Nat} (h : a ≠ c) : lay I c n f a = I a := by simp [lay, mrow, h]
theorem lay_succ : mu (lay I c n f) c n (f n) = lay I c (n + 1) f := by
  funext a b
  by_cases ha : a = c
  · subst ha
    by_cases hb : b = n
    · subst hb; simp [mu, lay, mrow, cp0]
    · by_cases h : b < n
      · simp [mu, hb, lay, mrow, cp0, h, Nat.lt_succ_of_lt h]
      · simp [mu, hb, lay, mrow, cp0, h, show ¬ b < n + 1 by omega]
  · simp [mu, ha, lay, mrow]
theorem lay_up {x : α} (h : x = f n) : mu (lay I c n f) c n x = lay I c (n + 1) f := by rw [h, lay_succ]
theorem lay_cong (h : ∀ j, j < n → f j = g j) : lay I c n f = lay I c n g := by
  funext a b
  by_cases ha : a = c
  · subst ha
    by_cases hb : b < n
    · rw [lay_in hb, lay_in hb, h b hb]
    · rw [lay_out (by omega), lay_out (by omega)]
  · rw [lay_ne ha, lay_ne ha]
theorem lay_lay : lay (lay I c n f) c n g = lay I c n g := by
  funext a b
  by_cases ha : a = c
  · subst ha
    by_cases hb : b < n
    · rw [lay_in hb, lay_in hb]
    · rw [lay_out (by omega), lay_out (by omega), lay_out (by omega)]
  · rw [lay_ne ha, lay_ne ha, lay_ne ha]
/-- one place of a laid row changed -/
theorem lay_mu {j : Nat} {x : α} (h : j < n) : mu (lay I c n f) c j x = lay I c n (fun q => if q = j then x else f q) := by
  funext a b
  by_cases ha : a = c
  · subst ha
    by_cases hb : b = j
    · subst hb; rw [mu_self, lay_in h]; simp
    · rw [show mu (lay I a n f) a j x a b = lay I a n f a b by simp [mu, hb]]
      by_cases hbn : b < n
      · rw [lay_in hbn, lay_in hbn]; simp [hb]
      · rw [lay_out (by omega), lay_out (by omega)]
  · rw [mu_ne _ _ ha, lay_ne ha, lay_ne ha]
theorem lay_self : lay I c n (I c) = I := by
  funext a b
  by_cases ha : a = c
  · subst ha
    by_cases hb : b < n
    · rw [lay_in hb]
    · rw [lay_out (by omega)]
  · rw [lay_ne ha]
end LAY
def sumL (f : Nat → Int64) : Nat → Int64
  | 0 => 0
  | n + 1 => sumL f n + f n
theorem sumL_cong {f g : Nat → Int64} : ∀ {n : Nat}, (∀ i, i < n → f i = g i) → sumL f n = sumL g n
  | 0, _ => rfl
  | n + 1, h => by rw [sumL, sumL, sumL_cong (fun i hi => h i (Nat.lt_succ_of_lt hi)), h n (Nat.lt_succ_self n)]
/-- how many directions a blade has -/
def pc5 (n : Nat) : Nat := n % 2 + n / 2 % 2 + n / 4 % 2 + n / 8 % 2 + n / 16 % 2
/-- the directions of i that are greater than one, for each: an odd number of them -/
def abv (i : Nat) : Nat := ((i >>> 1) ^^^ (i >>> 2)) ^^^ (((i >>> 1) ^^^ (i >>> 2)) >>> 2)
/-- the turns of two blades are odd -/
def odT (i j : Nat) : Bool := pc5 (abv i &&& j) % 2 == 1
theorem nI0 : (nI 0) = 0 := rfl
def b2i (b : Bool) : Int32 := if b then 1 else 0
theorem b2i_01 (b : Bool) : b2i b = 0 ∨ b2i b = 1 := by cases b <;> simp [b2i]
theorem ot_arg : ∀ i, i < 32 → ∀ j, j < 32 → (((nI i >>> (1 &&& 31)) ^^^ ((nI i >>> (1 &&& 31)) >>> (1 &&& 31))) ^^^ (((nI i >>> (1 &&& 31)) ^^^ ((nI i >>> (1 &&& 31)) >>> (1 &&& 31))) >>> (2 &&& 31))) &&& nI j = nI (abv i &&& j) := by decide +kernel
theorem ot_lt : ∀ i, i < 32 → ∀ j, j < 32 → abv i &&& j < 32 := by decide +kernel
theorem ot_par : ∀ n, n < 32 → ((nI (pc5 n) &&& 1 = 1) ↔ pc5 n % 2 = 1) := by decide +kernel
/-- the sign of a blade's directions below n -/
def sgB (s : Nat → Int32) (b : Nat) : Nat → Int32
  | 0 => 1
  | k + 1 => if b.testBit k then sgB s b k * s k else sgB s b k
theorem bit_tst : ∀ b, b < 32 → ∀ k, k < 5 → ((nI b >>> (nI k &&& 31)) &&& 1 = 1 ↔ b.testBit k = true) := by decide +kernel
theorem nI32_ge {i : Nat} (h : i < 32) : ¬ (32 : Int32) ≤ nI i := nI_ge (b := 32) h (by decide)
theorem nI5_ge {i : Nat} (h : i < 5) : ¬ (5 : Int32) ≤ nI i := nI_ge (b := 5) h (by decide)
theorem nI_nge {i n : Nat} (h : i < n) (hn : n < 2 ^ 31) : ¬ nI n ≤ nI i := nI_ge h hn
theorem kd_row {b x : Nat} (hb : isSt b) (hx : x < 8) : kdC (b + 2 + x) = (1, 32, 0) := by
  rw [Nat.add_assoc]
  exact kd_st hb (by omega) (by unfold kdS; simp only [show ¬ 2 + x = 0 by omega, show ¬ 2 + x = 1 by omega, show 2 + x ≤ 9 by omega, if_false, if_true])
theorem kd_mrow {b x : Nat} (hb : isSt b) (hx : x < 5) : kdC (b + 12 + x) = (1, 5, 0) := by
  rw [Nat.add_assoc]
  exact kd_st hb (by omega) (by unfold kdS; simp only [show ¬ 12 + x = 0 by omega, show ¬ 12 + x = 1 by omega, show ¬ 12 + x ≤ 9 by omega, show ¬ 12 + x = 10 by omega, show ¬ 12 + x = 11 by omega, show 12 + x ≤ 16 by omega, if_false, if_true])
theorem kd_sg {b : Nat} (hb : isSt b) : kdC (b + 10) = (1, 5, 0) := kd_st hb (by decide) rfl
theorem kd_ta {b : Nat} (hb : isSt b) : kdC (b + 17) = (1, 9, 0) := kd_st hb (by decide) rfl
theorem kd_fr {b x : Nat} (hb : isSt b) (hx : x < 8) : (∃ w, kdC (b + 1) = (5, 8, w) ∧ b + 2 + x = b + 1 + 1 + x * w) ∧ 4 ≤ 5 ∧ 5 ≤ 6 ∧ nI x = nI x ∧ x < 8 := ⟨⟨1, kd_st hb (by decide) rfl, by omega⟩, by decide, by decide, rfl, hx⟩
theorem kd_mr {b x : Nat} (hb : isSt b) (hx : x < 5) : (∃ w, kdC (b + 11) = (5, 5, w) ∧ b + 12 + x = b + 11 + 1 + x * w) ∧ 4 ≤ 5 ∧ 5 ≤ 6 ∧ nI x = nI x ∧ x < 5 := ⟨⟨1, kd_st hb (by decide) rfl, by omega⟩, by decide, by decide, rfl, hx⟩
theorem andI : ∀ i, i < 32 → ∀ j, j < 32 → nI i &&& nI j = nI (i &&& j) := by decide +kernel
theorem orI : ∀ i, i < 32 → ∀ j, j < 32 → nI i ||| nI j = nI (i ||| j) := by decide +kernel
theorem xorI : ∀ i, i < 32 → ∀ j, j < 32 → nI i ^^^ nI j = nI (i ^^^ j) := by decide +kernel
theorem and_lt : ∀ i, i < 32 → ∀ j, j < 32 → i &&& j < 32 := by decide +kernel
theorem or_lt : ∀ i, i < 32 → ∀ j, j < 32 → i ||| j < 32 := by decide +kernel
theorem xor_lt : ∀ i, i < 32 → ∀ j, j < 32 → i ^^^ j < 32 := by decide +kernel
theorem andI0 {i j : Nat} (hi : i < 32) (hj : j < 32) : (nI i &&& nI j = 0) ↔ i &&& j = 0 := by
  rw [andI i hi j hj, show (0 : Int32) = nI 0 from rfl, nI_eq (Nat.lt_trans (and_lt i hi j hj) (by decide)) (by decide)]
theorem bl_1 : ∀ i, i < 32 → ∀ j, j < 32 → i &&& j = 0 → i &&& (i ||| j) = i ∧ (i ||| j) ^^^ i = j := by decide +kernel
theorem bl_2 : ∀ i, i < 32 → ∀ k, k < 32 → i &&& k = i → i &&& (k ^^^ i) = 0 ∧ k = i ||| (k ^^^ i) := by decide +kernel
/-- the other sign, if so -/
def sg (o : Bool) (x : Int64) : Int64 := if o then -x else x
theorem sg_0 (o : Bool) : sg o 0 = 0 := by cases o <;> rfl
/-- what the blade i of a gives, with the blades below j of b, to the blade k of the wedge -/
def wI (a b : Nat → Int32) (i j k : Nat) : Int64 := if i &&& k = i ∧ (k ^^^ i) < j then sg (odT i (k ^^^ i)) ((a i).toInt64 * (b (k ^^^ i)).toInt64) else 0
def wC (a b : Nat → Int32) (B k : Nat) : Int64 := sumL (fun i => wI a b i B k) B
theorem wI_0 (a b : Nat → Int32) (i k : Nat) : wI a b i 0 k = 0 := by simp [wI]
theorem wI_a0 {a b : Nat → Int32} {i j k : Nat} (h : a i = 0) : wI a b i j k = 0 := by
  unfold wI
  split
  · rw [h, show (0 : Int32).toInt64 = 0 from rfl, Int64.zero_mul, sg_0]
  · rfl
theorem wI_hit {a b : Nat → Int32} {i j : Nat} (hi : i < 32) (hj : j < 32) (h : i &&& j = 0) : wI a b i j (i ||| j) = 0 ∧ wI a b i (j + 1) (i ||| j) = sg (odT i j) ((a i).toInt64 * (b j).toInt64) := by
  obtain ⟨h1, h2⟩ := bl_1 i hi j hj h
  constructor
  · simp [wI, h1, h2]
  · simp [wI, h1, h2]
theorem wI_miss {a b : Nat → Int32} {i j k : Nat} (hi : i < 32) (hk : k < 32) (h : i &&& j = 0 → k ≠ i ||| j) : wI a b i (j + 1) k = wI a b i j k := by
  unfold wI
  by_cases h1 : i &&& k = i
  · obtain ⟨h2, h3⟩ := bl_2 i hi k hk h1
    have hne : k ^^^ i ≠ j := fun e => by
      rw [e] at h2 h3
      exact h h2 h3
    have : (k ^^^ i < j + 1) ↔ (k ^^^ i < j) := by omega
    simp only [h1, this, true_and]
  · simp [h1]
theorem wI_b0 {a b : Nat → Int32} {i j k : Nat} (hi : i < 32) (hj : j < 32) (hk : k < 32) (h : b j = 0) : wI a b i (j + 1) k = wI a b i j k := by
  by_cases h1 : i &&& j = 0
  · by_cases h2 : k = i ||| j
    · subst h2
      obtain ⟨e1, e2⟩ := wI_hit (a := a) (b := b) hi hj h1
      rw [e1, e2, h, show (0 : Int32).toInt64 = 0 from rfl, Int64.mul_zero, sg_0]
    · exact wI_miss hi hk (fun _ => h2)
  · exact wI_miss hi hk (fun e => absurd e h1)
def sgn (s : Nat → Int32) (i : Nat) : Int32 := sgB s i 5
/-- what the blade i of a gives, below the blade j, to the blade k of the contraction -/
def cI (s a b : Nat → Int32) (i j k : Nat) : Int64 := if k < j ∧ i &&& k = 0 then sg (odT i k) ((a i).toInt64 * (b (i ||| k)).toInt64 * (sgn s i).toInt64) else 0
def cC (s a b : Nat → Int32) (B k : Nat) : Int64 := sumL (fun i => cI s a b i B k) B
theorem cI_0 (s a b : Nat → Int32) (i k : Nat) : cI s a b i 0 k = 0 := by simp [cI]
theorem cI_a0 {s a b : Nat → Int32} {i j k : Nat} (h : a i = 0) : cI s a b i j k = 0 := by
  unfold cI
  split
  · rw [h, show (0 : Int32).toInt64 = 0 from rfl, Int64.zero_mul, Int64.zero_mul, sg_0]
  · rfl
theorem cI_hit {s a b : Nat → Int32} {i j : Nat} (h : i &&& j = 0) : cI s a b i j j = 0 ∧ cI s a b i (j + 1) j = sg (odT i j) ((a i).toInt64 * (b (i ||| j)).toInt64 * (sgn s i).toInt64) := by simp [cI, h]
theorem cI_miss {s a b : Nat → Int32} {i j k : Nat} (h : i &&& j = 0 → k ≠ j) : cI s a b i (j + 1) k = cI s a b i j k := by
  unfold cI
  by_cases h1 : i &&& k = 0
  · have hne : k ≠ j := fun e => by subst e; exact h h1 rfl
    have : (k < j + 1) ↔ (k < j) := by omega
    simp only [h1, this, and_true]
  · simp [h1]
theorem cI_b0 {s a b : Nat → Int32} {i j k : Nat} (h : b (i ||| j) = 0) : cI s a b i (j + 1) k = cI s a b i j k := by
  by_cases h1 : i &&& j = 0
  · by_cases h2 : k = j
    · subst h2
      obtain ⟨e1, e2⟩ := cI_hit (s := s) (a := a) (b := b) h1
      rw [e1, e2, h, show (0 : Int32).toInt64 = 0 from rfl, Int64.mul_zero, Int64.zero_mul, sg_0]
    · exact cI_miss (fun _ => h2)
  · exact cI_miss (fun e => absurd e h1)
theorem pow_le32 : ∀ n, n ≤ 5 → 2 ^ n ≤ 32 ∧ 0 < 2 ^ n := by decide
/-- the star's number for the blade k -/
def stC (s a : Nat → Int32) (B k : Nat) : Int64 := if k < B then sg (odT ((B - 1) ^^^ k) k) ((a ((B - 1) ^^^ k)).toInt64 * (sgn s ((B - 1) ^^^ k)).toInt64) else 0
/-- one more column: the image of a blade grown by it -/
def wcs (m : Nat → Nat → Int32) (n c : Nat) (f : Nat → Int64) (t : Nat) : Int64 := sumL (fun r => if t.testBit r then sg (odT (t ^^^ 2 ^ r) (2 ^ r)) (f (t ^^^ 2 ^ r) * (m r c).toInt64) else 0) n
/-- how many directions of a blade lie below c -/
def pcl (b : Nat) : Nat → Nat
  | 0 => 0
  | c + 1 => if b.testBit c then pcl b c + 1 else pcl b c
/-- the image of a blade by the columns below c -/
def gw (m : Nat → Nat → Int32) (n b : Nat) : Nat → Nat → Int64
  | 0 => fun k => if k = 0 then 1 else 0
  | c + 1 => if b.testBit c then wcs m n c (gw m n b c) else gw m n b c
/-- the same in one row, where numbers of other grades stay -/
def ig (m : Nat → Nat → Int32) (n b : Nat) (f0 : Nat → Int64) : Nat → Nat → Int64
  | 0 => fun k => if k = 0 then 1 else f0 k
  | c + 1 => if b.testBit c then (fun t => if t < 2 ^ n ∧ pc5 t = pcl b (c + 1) then wcs m n c (ig m n b f0 c) t else ig m n b f0 c t) else ig m n b f0 c
theorem pc5_drop : ∀ t, t < 32 → ∀ r, r < 5 → t.testBit r = true → pc5 (t ^^^ 2 ^ r) + 1 = pc5 t ∧ t ^^^ 2 ^ r < t := by decide +kernel
theorem tb_and : ∀ t, t < 32 → ∀ r, r < 5 → (nI t &&& nI (2 ^ r) = 0 ↔ t.testBit r = false) := by decide +kernel
theorem pow2_lt : ∀ r, r < 5 → 2 ^ r < 32 := by decide
theorem pc5_0 : ∀ t, t < 32 → pc5 t = 0 → t = 0 := by decide +kernel
theorem pcl_all : ∀ n, n ≤ 5 → ∀ b, b < 2 ^ n → pcl b n = pc5 b := by decide +kernel
theorem pcl_le : ∀ c, c ≤ 5 → ∀ b, b < 32 → pcl b c ≤ 5 := by decide +kernel
theorem pc5_all : ∀ n, n ≤ 5 → pc5 (2 ^ n - 1) = n := by decide +kernel
theorem pc5_le (n : Nat) : pc5 n ≤ 5 := by unfold pc5; omega
theorem ig_gw {m : Nat → Nat → Int32} {n b : Nat} {f0 : Nat → Int64} (hn : n ≤ 5) : ∀ c, ∀ t, t < 2 ^ n → pc5 t = pcl b c → ig m n b f0 c t = gw m n b c t := by
  have h32 := (pow_le32 n hn).1
  intro c
  induction c with
  | zero =>
    intro t ht h
    have : t = 0 := pc5_0 t (by omega) h
    subst this
    rfl
  | succ c ih =>
    intro t ht h
    simp only [ig, gw]
    by_cases hb : b.testBit c = true
    · simp only [hb, if_true]
      rw [if_pos ⟨ht, h⟩]
      unfold wcs
      refine sumL_cong (fun r hr => ?_)
      by_cases h1 : t.testBit r = true
      · obtain ⟨d1, d2⟩ := pc5_drop t (by omega) r (by omega) h1
        simp only [h1, if_true]
        rw [ih (t ^^^ 2 ^ r) (by omega) (by simp only [pcl, hb, if_true] at h; omega)]
      · simp only [h1]
        rfl
    · simp only [hb]
      simp only [pcl, hb] at h
      exact ih t ht h
/-- the image row behind the blades below i -/
def igF (m : Nat → Nat → Int32) (n : Nat) (a : Nat → Int32) (f0 : Nat → Int64) : Nat → Nat → Int64
  | 0 => f0
  | i + 1 => if a i = 0 then igF m n a f0 i else ig m n i (igF m n a f0 i) n
/-- the pushed form's number for the blade k -/
def puI (m : Nat → Nat → Int32) (n : Nat) (a : Nat → Int32) (k i : Nat) : Int64 := if k < 2 ^ n ∧ pc5 k = pc5 i then (a i).toInt64 * gw m n i n k else 0
def puC (m : Nat → Nat → Int32) (n : Nat) (a : Nat → Int32) (k : Nat) : Int64 := sumL (puI m n a k) (2 ^ n)
def inC (s a b : Nat → Int32) (B : Nat) : Int64 := sumL (fun k => (a k).toInt64 * (b k).toInt64 * (sgn s k).toInt64) B
theorem puI_a0 {m : Nat → Nat → Int32} {n : Nat} {a : Nat → Int32} {k i : Nat} (h : a i = 0) : puI m n a k i = 0 := by
  unfold puI
  split
  · rw [h, show (0 : Int32).toInt64 = 0 from rfl, Int64.zero_mul]
  · rfl
theorem pow_mono : ∀ n, n ≤ 5 → ∀ i, i < 2 ^ n → i < 32 := by decide
theorem bit_tst0 : ∀ t, t < 32 → ∀ c, c < 5 → ((nI t >>> (nI c &&& 31)) &&& 1 = 0 ↔ t.testBit c = false) := by decide +kernel
theorem lay_comm {α : Type} {I : Nat → Nat → α} {a c n k : Nat} {f g : Nat → α} (h : a ≠ c) : lay (lay I c n f) a k g = lay (lay I a k g) c n f := by
  funext x y
  by_cases hx : x = a
  · subst hx
    rw [lay_ne (I := lay I x k g) h, lay_at, lay_at, lay_ne h]
  · by_cases hc : x = c
    · subst hc
      rw [lay_ne (I := lay I x n f) hx, lay_at, lay_at, lay_ne hx]
    · rw [lay_ne hx, lay_ne hc, lay_ne hc, lay_ne hx]
theorem ig_cong {m : Nat → Nat → Int32} {n b : Nat} {f g : Nat → Int64} (h : ∀ j, j < 32 → f j = g j) : ∀ c, c ≤ 5 → ∀ k, k < 32 → ig m n b f c k = ig m n b g c k := by
  intro c
  induction c with
  | zero => intro _ k hk; simp only [ig]; rw [h k hk]
  | succ c ih =>
    intro hc k hk
    simp only [ig]
    by_cases hb : b.testBit c = true
    · simp only [hb, if_true]
      by_cases hk2 : k < 2 ^ n ∧ pc5 k = pcl b (c + 1)
      · rw [if_pos hk2, if_pos hk2]
        unfold wcs
        refine sumL_cong (fun r hr => ?_)
        by_cases hr2 : k.testBit r = true
        · simp only [hr2, if_true]
          have hr5 : r < 5 := by
            rcases Nat.lt_or_ge r 5 with q | q
            · exact q
            · have : 2 ^ 5 ≤ 2 ^ r := Nat.pow_le_pow_right (by decide) q
              rw [Nat.testBit_lt_two_pow (by omega)] at hr2
              cases hr2
          obtain ⟨d1, d2⟩ := pc5_drop k hk r hr5 hr2
          rw [ih (by omega) _ (by omega)]
        · simp only [hr2]
          rfl
      · rw [if_neg hk2, if_neg hk2]
        exact ih (by omega) k hk
    · simp only [hb]
      exact ih (by omega) k hk
end
section
theorem qJ6_bitCount (l : Launch) {n : Nat} (hn : n < 32) (I : IM) (L : LM) : KJ6_bitCount_0f7a4 l [.int (nI n)] I L (some (.int (nI (pc5 n)))) I L := by
  refine wJ6_bitCount_0f7a4 l rfl (hz0 (by decide)) (fun V hV => ?_)
  refine ru_fin hV 42 [] rfl rfl trivial ?_
  refine ⟨?_, rfl, rfl⟩
  clear hV V
  revert n
  decide +kernel
theorem qX5_oddTurns (l : Launch) {i j : Nat} (hi : i < 32) (hj : j < 32) (I : IM) (L : LM) : KX5_oddTurns l [.int (nI i), .int (nI j)] I L (some (.int (b2i (odT i j)))) I L := by
  refine wX5_oddTurns l rfl (fun _ x h => by cases h; exact b2i_01 _) (fun V hV => ?_)
  refine ru_go hV 19 [] rfl rfl trivial ?_
  rw [ot_arg i hi j hj]
  have hm := ot_lt i hi j hj
  refine ru_S hV [] sSX5_9 (qJ6_bitCount l hm I L) rfl rfl rfl (by decide) ?_
  have hp := ot_par _ hm
  by_cases h : pc5 (abv i &&& j) % 2 = 1
  · refine ru_fin hV 7 [(0, 0)] rfl rfl ⟨trivial, (fun e => e (hp.mpr h))⟩ ?_
    exact ⟨by simp [b2i, odT, h], rfl, rfl⟩
  · refine ru_fin hV 6 [(1, 0)] rfl rfl ⟨trivial, (fun e => h (hp.mp e))⟩ ?_
    exact ⟨by simp [b2i, odT, h], rfl, rfl⟩
theorem qX5_signOfBlade (l : Launch) {c b : Nat} (hc : kdC c = (1, 5, 0)) (hb : b < 32) (I : IM) (L : LM) : KX5_signOfBlade l [.ref c, .int (nI b)] I L (some (.int (sgB (I c) b 5))) I L := by
  refine wX5_signOfBlade l rfl (hz0 (by decide)) (fun V hV => ?_)
  refine ru_go hV 4 [] rfl rfl trivial ?_
  refine loop0 (P := fun k => V 4 [(0, .ref c), (1, .int (nI b)), (2, .int (sgB (I c) b k)), (3, .int (nI k))] [] I L) 5 (fun h => h) (fun k hk ih => ?_) ?_
  · by_cases h : b.testBit k = true
    · refine ru_go hV 18 [(0, 0), (0, 0), (k, 5)] rfl rfl ⟨⟨⟨trivial, nI5_ge hk⟩, (fun e => e ((bit_tst b hb k hk).mpr h))⟩, (by first | exact rfl | assumption | exact ⟨rfl, rfl⟩ | exact ⟨rfl, rfl, by omega⟩ | exact ⟨by assumption, rfl, by omega⟩ | exact ⟨⟨_, rfl, rfl⟩, by decide, by decide, rfl, by omega⟩ | omega | decide)⟩ ?_
      rw [nI_1, show sgB (I c) b k * I c k = sgB (I c) b (k + 1) by simp [sgB, h]]
      exact ih
    · refine ru_go hV 12 [(0, 0), (1, 0)] rfl rfl ⟨⟨trivial, nI5_ge hk⟩, (fun e => h ((bit_tst b hb k hk).mp e))⟩ ?_
      rw [nI_1, show sgB (I c) b k = sgB (I c) b (k + 1) by simp [sgB, h]]
      exact ih
  · refine ru_fin hV 5 [(1, 0)] rfl rfl ⟨trivial, (by first | exact rfl | assumption | exact ⟨rfl, rfl⟩ | exact ⟨rfl, rfl, by omega⟩ | exact ⟨by assumption, rfl, by omega⟩ | exact ⟨⟨_, rfl, rfl⟩, by decide, by decide, rfl, by omega⟩ | omega | decide)⟩ ?_
    exact ⟨rfl, rfl, rfl⟩
theorem qX5_clear (l : Launch) {c : Nat} (hc : kdC c = (2, 32, 0)) (I : IM) (L : LM) : KX5_clear l [.ref c] I L none I (lay L c 32 (fun _ => 0)) := by
  refine wX5_clear l rfl (hz0 (by decide)) (fun V hV => ?_)
  refine ru_go hV 2 [] rfl rfl trivial ?_
  refine loop0 (P := fun k => V 2 [(0, .ref c), (1, .int (nI k))] [] I (lay L c k (fun _ => 0))) 32 (fun h => by rw [lay_0] at h; exact h) (fun k hk ih => ?_) ?_
  · refine ru_go hV 9 [(0, 0), (k, 32)] rfl rfl ⟨⟨trivial, nI32_ge hk⟩, (by first | exact rfl | assumption | exact ⟨rfl, rfl⟩ | exact ⟨rfl, rfl, by omega⟩ | exact ⟨by assumption, rfl, by omega⟩ | exact ⟨⟨_, rfl, rfl⟩, by decide, by decide, rfl, by omega⟩ | omega | decide)⟩ ?_
    rw [nI_1, lay_up (f := fun _ => 0) rfl]
    exact ih
  · refine ru_fin hV 4 [(1, 0)] rfl rfl ⟨trivial, (by first | exact rfl | assumption | exact ⟨rfl, rfl⟩ | exact ⟨rfl, rfl, by omega⟩ | exact ⟨by assumption, rfl, by omega⟩ | exact ⟨⟨_, rfl, rfl⟩, by decide, by decide, rfl, by omega⟩ | omega | decide)⟩ ?_
    exact ⟨rfl, rfl, rfl⟩
theorem bl_sh : ∀ n, n ≤ 5 → (1 : Int32) <<< (nI n &&& 31) = nI (2 ^ n) := by decide +kernel
theorem qX6_blades (l : Launch) {b n : Nat} (hb : isSt b) (hn : n ≤ 5) {I : IM} (hd : I b 0 = nI n) (L : LM) : KX6_blades l [.ref b] I L (some (.int (nI (2 ^ n)))) I L := by
  refine wX6_blades l rfl (hz0 (by decide)) (fun V hV => ?_)
  refine ru_fin hV 5 [] rfl rfl ⟨trivial, kd_st0 hb⟩ ?_
  exact ⟨by rw [hd, bl_sh n hn]; rfl, rfl, rfl⟩
theorem qX5_addForms (l : Launch) {b x y r : Nat} (hb : isSt b) (hx : x < 8) (hy : y < 8) (hr : kdC r = (2, 32, 0)) (I : IM) (L : LM) : KX5_addForms l [.ref b, .int (nI x), .int (nI y), .ref r] I L none I (lay L r 32 (fun k => (I (b + 2 + x) k).toInt64 + (I (b + 2 + y) k).toInt64)) := by
  have kx : kdC (b + 2 + x) = (1, 32, 0) := kd_row hb hx
  have ky : kdC (b + 2 + y) = (1, 32, 0) := kd_row hb hy
  refine wX5_addForms l rfl (hz0 (by decide)) (fun V hV => ?_)
  refine ru_go hV 12 [((b+1), 0), (x, 8), ((b+2+x), 5), ((b+1), 0), (y, 8), ((b+2+y), 5)] rfl rfl ⟨⟨⟨⟨trivial, ⟨kd_st0 hb, rfl⟩⟩, kd_fr hb hx⟩, ⟨kd_st0 hb, rfl⟩⟩, kd_fr hb hy⟩ ?_
  refine loop0 (P := fun k => V 19 [(0, .ref b), (1, .int (nI x)), (2, .int (nI y)), (3, .ref r), (4, .ref (b + 2 + x)), (5, .ref (b + 2 + y)), (6, .int (nI k))] [] I (lay L r k (fun k => (I (b + 2 + x) k).toInt64 + (I (b + 2 + y) k).toInt64))) 32 (fun h => by rw [lay_0] at h; exact h) (fun k hk ih => ?_) ?_
  · refine ru_go hV 17 [(0, 0), (k, 32), (k, 32), (k, 32)] rfl rfl ⟨⟨⟨⟨trivial, nI32_ge hk⟩, (by first | exact rfl | assumption | exact ⟨rfl, rfl⟩ | exact ⟨rfl, rfl, by omega⟩ | exact ⟨by assumption, rfl, by omega⟩ | exact ⟨⟨_, rfl, rfl⟩, by decide, by decide, rfl, by omega⟩ | omega | decide)⟩, (by first | exact rfl | assumption | exact ⟨rfl, rfl⟩ | exact ⟨rfl, rfl, by omega⟩ | exact ⟨by assumption, rfl, by omega⟩ | exact ⟨⟨_, rfl, rfl⟩, by decide, by decide, rfl, by omega⟩ | omega | decide)⟩, (by first | exact rfl | assumption | exact ⟨rfl, rfl⟩ | exact ⟨rfl, rfl, by omega⟩ | exact ⟨by assumption, rfl, by omega⟩ | exact ⟨⟨_, rfl, rfl⟩, by decide, by decide, rfl, by omega⟩ | omega | decide)⟩ ?_
    rw [nI_1, lay_up (f := fun k => (I (b + 2 + x) k).toInt64 + (I (b + 2 + y) k).toInt64) rfl]
    exact ih
  · refine ru_fin hV 4 [(1, 0)] rfl rfl ⟨trivial, (by first | exact rfl | assumption | exact ⟨rfl, rfl⟩ | exact ⟨rfl, rfl, by omega⟩ | exact ⟨by assumption, rfl, by omega⟩ | exact ⟨⟨_, rfl, rfl⟩, by decide, by decide, rfl, by omega⟩ | omega | decide)⟩ ?_
    exact ⟨rfl, rfl, rfl⟩
theorem qX5_multiplyForm (l : Launch) {b x r : Nat} {z : Int32} (hb : isSt b) (hx : x < 8) (hr : kdC r = (2, 32, 0)) (I : IM) (L : LM) : KX5_multiplyForm l [.ref b, .int (nI x), .int z, .ref r] I L none I (lay L r 32 (fun k => (I (b + 2 + x) k).toInt64 * z.toInt64)) := by
  have kx : kdC (b + 2 + x) = (1, 32, 0) := kd_row hb hx
  refine wX5_multiplyForm l rfl (hz0 (by decide)) (fun V hV => ?_)
  refine ru_go hV 7 [((b+1), 0), (x, 8), ((b+2+x), 5)] rfl rfl ⟨⟨trivial, ⟨kd_st0 hb, rfl⟩⟩, kd_fr hb hx⟩ ?_
  refine loop0 (P := fun k => V 11 [(0, .ref b), (1, .int (nI x)), (2, .int z), (3, .ref r), (4, .ref (b + 2 + x)), (5, .int (nI k))] [] I (lay L r k (fun k => (I (b + 2 + x) k).toInt64 * z.toInt64))) 32 (fun h => by rw [lay_0] at h; exact h) (fun k hk ih => ?_) ?_
  · refine ru_go hV 15 [(0, 0), (k, 32), (k, 32)] rfl rfl ⟨⟨⟨trivial, nI32_ge hk⟩, (by first | exact rfl | assumption | exact ⟨rfl, rfl⟩ | exact ⟨rfl, rfl, by omega⟩ | exact ⟨by assumption, rfl, by omega⟩ | exact ⟨⟨_, rfl, rfl⟩, by decide, by decide, rfl, by omega⟩ | omega | decide)⟩, (by first | exact rfl | assumption | exact ⟨rfl, rfl⟩ | exact ⟨rfl, rfl, by omega⟩ | exact ⟨by assumption, rfl, by omega⟩ | exact ⟨⟨_, rfl, rfl⟩, by decide, by decide, rfl, by omega⟩ | omega | decide)⟩ ?_
    rw [nI_1, lay_up (f := fun k => (I (b + 2 + x) k).toInt64 * z.toInt64) rfl]
    exact ih
  · refine ru_fin hV 4 [(1, 0)] rfl rfl ⟨trivial, (by first | exact rfl | assumption | exact ⟨rfl, rfl⟩ | exact ⟨rfl, rfl, by omega⟩ | exact ⟨by assumption, rfl, by omega⟩ | exact ⟨⟨_, rfl, rfl⟩, by decide, by decide, rfl, by omega⟩ | omega | decide)⟩ ?_
    exact ⟨rfl, rfl, rfl⟩
end
section
theorem qX5_wedgeForms (l : Launch) {c d r n : Nat} (hc : kdC c = (1, 32, 0)) (hd : kdC d = (1, 32, 0)) (hr : kdC r = (2, 32, 0)) (hn : n ≤ 5) (I : IM) (L : LM) : KX5_wedgeForms l [.ref c, .ref d, .int (nI (2 ^ n)), .ref r] I L none I (lay L r 32 (fun k => wC (I c) (I d) (2 ^ n) k)) := by
  obtain ⟨hB, -⟩ := pow_le32 n hn
  generalize 2 ^ n = B at hB ⊢
  have hB2 : B < 2 ^ 31 := by omega
  refine wX5_wedgeForms l rfl (hz0 (by decide)) (fun V hV => ?_)
  refine ru_go hV 1 [] rfl rfl trivial ?_
  refine ru_S hV [] sSX5_21 (qX5_clear l hr I L) rfl rfl rfl (by decide) ?_
  refine ru_go hV 2 [] rfl rfl trivial ?_
  refine loop0 (P := fun i => V 7 [(0, .ref c), (1, .ref d), (2, .int (nI B)), (3, .ref r), (4, .int (nI i))] [] I (lay L r 32 (fun k => sumL (fun q => wI (I c) (I d) q B k) i))) B (fun h => h) (fun i hi ih => ?_) ?_
  · have hi32 : i < 32 := by omega
    have next : ∀ Lx : LM, Lx = lay L r 32 (fun k => sumL (fun q => wI (I c) (I d) q B k) (i + 1)) → V 94 [(0, .ref c), (1, .ref d), (2, .int (nI B)), (3, .ref r), (4, .int (nI i))] [] I Lx := fun Lx e => by
      subst e
      refine ru_go hV 2 [] rfl rfl trivial ?_
      rw [nI_1]
      exact ih
    by_cases h0 : I c i = 0
    · refine ru_go hV 8 [(0, 0), (i, 32), (0, 0)] rfl rfl ⟨⟨⟨trivial, nI_nge hi hB2⟩, (by first | exact rfl | assumption | exact ⟨rfl, rfl⟩ | exact ⟨rfl, rfl, by omega⟩ | exact ⟨by assumption, rfl, by omega⟩ | exact ⟨⟨_, rfl, rfl⟩, by decide, by decide, rfl, by omega⟩ | omega | decide)⟩, (fun e => e h0)⟩ ?_
      exact next _ (lay_cong (fun k _ => by rw [sumL, wI_a0 h0, Int64.add_zero]))
    · refine ru_go hV 9 [(0, 0), (i, 32), (1, 0)] rfl rfl ⟨⟨⟨trivial, nI_nge hi hB2⟩, (by first | exact rfl | assumption | exact ⟨rfl, rfl⟩ | exact ⟨rfl, rfl, by omega⟩ | exact ⟨by assumption, rfl, by omega⟩ | exact ⟨⟨_, rfl, rfl⟩, by decide, by decide, rfl, by omega⟩ | omega | decide)⟩, h0⟩ ?_
      refine loop0 (P := fun j => V 26 [(0, .ref c), (1, .ref d), (2, .int (nI B)), (3, .ref r), (4, .int (nI i)), (5, .int (nI j))] [] I (lay L r 32 (fun k => sumL (fun q => wI (I c) (I d) q B k) i + wI (I c) (I d) i j k))) B (fun h => by simp only [wI_0, Int64.add_zero] at h; exact h) (fun j hj ih2 => ?_) ?_
      · have hj32 : j < 32 := by omega
        have step : ∀ lv Lx, lv = [(0, .ref c), (1, .ref d), (2, .int (nI B)), (3, .ref r), (4, .int (nI i)), (5, .int (nI j))] → Lx = lay L r 32 (fun k => sumL (fun q => wI (I c) (I d) q B k) i + wI (I c) (I d) i (j + 1) k) → V 88 lv [] I Lx := fun lv Lx e1 e2 => by
          subst e1; subst e2
          refine ru_go hV 2 [] rfl rfl trivial ?_
          rw [nI_1]
          exact ih2
        by_cases h1 : i &&& j = 0
        · by_cases h2 : I d j = 0
          · refine ru_go hV 11 [(0, 0), (0, 0), (j, 32), (1, 0)] rfl rfl ⟨⟨⟨⟨trivial, nI_nge hj hB2⟩, (fun e => e ((andI0 hi32 hj32).mpr h1))⟩, (by first | exact rfl | assumption | exact ⟨rfl, rfl⟩ | exact ⟨rfl, rfl, by omega⟩ | exact ⟨by assumption, rfl, by omega⟩ | exact ⟨⟨_, rfl, rfl⟩, by decide, by decide, rfl, by omega⟩ | omega | decide)⟩, h2⟩ ?_
            exact step _ _ rfl (lay_cong (fun k hk => by rw [wI_b0 hi32 hj32 hk h2]))
          · refine ru_go hV 29 [(0, 0), (0, 0), (j, 32), (0, 0), (i, 32), (j, 32), ((i|||j), 32)] rfl rfl ⟨⟨⟨⟨⟨⟨⟨trivial, nI_nge hj hB2⟩, (fun e => e ((andI0 hi32 hj32).mpr h1))⟩, (by first | exact rfl | assumption | exact ⟨rfl, rfl⟩ | exact ⟨rfl, rfl, by omega⟩ | exact ⟨by assumption, rfl, by omega⟩ | exact ⟨⟨_, rfl, rfl⟩, by decide, by decide, rfl, by omega⟩ | omega | decide)⟩, h2⟩, (by first | exact rfl | assumption | exact ⟨rfl, rfl⟩ | exact ⟨rfl, rfl, by omega⟩ | exact ⟨by assumption, rfl, by omega⟩ | exact ⟨⟨_, rfl, rfl⟩, by decide, by decide, rfl, by omega⟩ | omega | decide)⟩, (by first | exact rfl | assumption | exact ⟨rfl, rfl⟩ | exact ⟨rfl, rfl, by omega⟩ | exact ⟨by assumption, rfl, by omega⟩ | exact ⟨⟨_, rfl, rfl⟩, by decide, by decide, rfl, by omega⟩ | omega | decide)⟩, ⟨hr, orI i hi32 j hj32, or_lt i hi32 j hj32⟩⟩ ?_
            refine ru_S hV [.long _, .int _, .ref r] sSX5_27 (qX5_oddTurns l hi32 hj32 I _) rfl rfl rfl (Nat.le_of_ble_eq_true rfl) ?_
            have fin : ∀ o : Bool, o = odT i j → mu (lay L r 32 (fun k => sumL (fun q => wI (I c) (I d) q B k) i + wI (I c) (I d) i j k)) r (i ||| j) (lay L r 32 (fun k => sumL (fun q => wI (I c) (I d) q B k) i + wI (I c) (I d) i j k) r (i ||| j) + sg o ((I c i).toInt64 * (I d j).toInt64)) = lay L r 32 (fun k => sumL (fun q => wI (I c) (I d) q B k) i + wI (I c) (I d) i (j + 1) k) := fun o ho => by
              have hor := or_lt i hi32 j hj32
              obtain ⟨e1, e2⟩ := wI_hit (a := I c) (b := I d) hi32 hj32 h1
              rw [lay_in hor, lay_mu hor, ho]
              refine lay_cong (fun k hk => ?_)
              by_cases hkk : k = i ||| j
              · subst hkk
                rw [if_pos rfl, e1, e2, Int64.add_zero]
              · rw [if_neg hkk, wI_miss hi32 hk (fun _ => hkk)]
            cases ho : odT i j with
            | false =>
              refine ru_go hV 4 [(1, 0), ((i|||j), 32)] rfl rfl ⟨⟨trivial, (by first | exact rfl | assumption | exact ⟨rfl, rfl⟩ | exact ⟨rfl, rfl, by omega⟩ | exact ⟨by assumption, rfl, by omega⟩ | exact ⟨⟨_, rfl, rfl⟩, by decide, by decide, rfl, by omega⟩ | omega | decide)⟩, ⟨hr, orI i hi32 j hj32, or_lt i hi32 j hj32⟩⟩ ?_
              exact ru_sub hV [0, 1, 2, 3, 4, 5] rfl (step _ _ rfl (fin false ho.symm))
            | true =>
              refine ru_go hV 6 [(0, 0), ((i|||j), 32)] rfl rfl ⟨⟨trivial, (by first | exact rfl | assumption | exact ⟨rfl, rfl⟩ | exact ⟨rfl, rfl, by omega⟩ | exact ⟨by assumption, rfl, by omega⟩ | exact ⟨⟨_, rfl, rfl⟩, by decide, by decide, rfl, by omega⟩ | omega | decide)⟩, ⟨hr, orI i hi32 j hj32, or_lt i hi32 j hj32⟩⟩ ?_
              exact ru_sub hV [0, 1, 2, 3, 4, 5] rfl (step _ _ rfl (fin true ho.symm))
        · refine ru_go hV 7 [(0, 0), (1, 0)] rfl rfl ⟨⟨trivial, nI_nge hj hB2⟩, (fun e => h1 ((andI0 hi32 hj32).mp e))⟩ ?_
          exact step _ _ rfl (lay_cong (fun k hk => by rw [wI_miss hi32 hk (fun e => absurd e h1)]))
      · refine ru_go hV 3 [(1, 0)] rfl rfl ⟨trivial, nI_le (Nat.le_refl B) hB2⟩ ?_
        exact ru_sub hV [0, 1, 2, 3, 4] rfl (next _ rfl)
  · refine ru_fin hV 4 [(1, 0)] rfl rfl ⟨trivial, nI_le (Nat.le_refl B) hB2⟩ ?_
    exact ⟨rfl, rfl, rfl⟩
theorem qX5_contractForms (l : Launch) {b x y r n : Nat} (hb : isSt b) (hx : x < 8) (hy : y < 8) (hr : kdC r = (2, 32, 0)) (hn : n ≤ 5) {I : IM} (hdim : I b 0 = nI n) (L : LM) : KX5_contractForms l [.ref b, .int (nI x), .int (nI y), .ref r] I L none I (lay L r 32 (fun k => cC (I (b + 10)) (I (b + 2 + x)) (I (b + 2 + y)) (2 ^ n) k)) := by
  have kx : kdC (b + 2 + x) = (1, 32, 0) := kd_row hb hx
  have ky : kdC (b + 2 + y) = (1, 32, 0) := kd_row hb hy
  have ks := kd_sg hb
  have k0 := kd_st0 hb
  obtain ⟨hB, -⟩ := pow_le32 n hn
  have hbl : ∀ M : LM, KX6_blades l [.ref b] I M (some (.int (nI (2 ^ n)))) I M := fun M => qX6_blades l hb hn hdim M
  generalize 2 ^ n = B at hB hbl ⊢
  have hB2 : B < 2 ^ 31 := by omega
  refine wX5_contractForms l rfl (hz0 (by decide)) (fun V hV => ?_)
  refine ru_go hV 11 [((b+1), 0), (x, 8), ((b+2+x), 5), ((b+1), 0), (y, 8), ((b+2+y), 5)] rfl rfl ⟨⟨⟨⟨trivial, ⟨k0, rfl⟩⟩, kd_fr hb hx⟩, ⟨k0, rfl⟩⟩, kd_fr hb hy⟩ ?_
  refine ru_S hV [] sSX5_21 (qX5_clear l hr I L) rfl rfl rfl (Nat.le_of_ble_eq_true rfl) ?_
  refine ru_go hV 2 [] rfl rfl trivial ?_
  refine loop0 (P := fun i => V 23 [(0, .ref b), (1, .int (nI x)), (2, .int (nI y)), (3, .ref r), (4, .ref (b + 2 + x)), (5, .ref (b + 2 + y)), (6, .int (nI i))] [] I (lay L r 32 (fun k => sumL (fun q => cI (I (b + 10)) (I (b + 2 + x)) (I (b + 2 + y)) q B k) i))) B (fun h => h) (fun i hi ih => ?_) ?_
  · have hi32 : i < 32 := by omega
    have next : ∀ lv (Lx : LM), lv = [(0, .ref b), (1, .int (nI x)), (2, .int (nI y)), (3, .ref r), (4, .ref (b + 2 + x)), (5, .ref (b + 2 + y)), (6, .int (nI i))] → Lx = lay L r 32 (fun k => sumL (fun q => cI (I (b + 10)) (I (b + 2 + x)) (I (b + 2 + y)) q B k) (i + 1)) → V 138 lv [] I Lx := fun lv Lx e1 e => by
      subst e; subst e1
      refine ru_go hV 2 [] rfl rfl trivial ?_
      rw [nI_1]
      exact ih
    refine ru_go hV 2 [] rfl rfl trivial ?_
    refine ru_V hV [.int (nI i)] sVX5_31 (hbl _) k0 rfl rfl rfl rfl (Nat.le_of_ble_eq_true rfl) ?_
    by_cases h0 : I (b + 2 + x) i = 0
    · refine ru_go hV 6 [(0, 0), (i, 32), (0, 0)] rfl rfl ⟨⟨⟨trivial, nI_nge hi hB2⟩, (by first | exact rfl | assumption | exact ⟨rfl, rfl⟩ | exact ⟨rfl, rfl, by omega⟩ | exact ⟨by assumption, rfl, by omega⟩ | exact ⟨⟨_, rfl, rfl⟩, by decide, by decide, rfl, by omega⟩ | omega | decide)⟩, (fun e => e h0)⟩ ?_
      exact next _ _ rfl (lay_cong (fun k _ => by rw [sumL, cI_a0 h0, Int64.add_zero]))
    · refine ru_go hV 8 [(0, 0), (i, 32), (1, 0), ((b+10), 0)] rfl rfl ⟨⟨⟨⟨trivial, nI_nge hi hB2⟩, (by first | exact rfl | assumption | exact ⟨rfl, rfl⟩ | exact ⟨rfl, rfl, by omega⟩ | exact ⟨by assumption, rfl, by omega⟩ | exact ⟨⟨_, rfl, rfl⟩, by decide, by decide, rfl, by omega⟩ | omega | decide)⟩, h0⟩, ⟨k0, rfl⟩⟩ ?_
      refine ru_S hV [] sSX5_39 (qX5_signOfBlade l ks hi32 I _) rfl rfl rfl (Nat.le_of_ble_eq_true rfl) ?_
      refine ru_go hV 3 [] rfl rfl trivial ?_
      refine loop0 (P := fun j => V 57 [(0, .ref b), (1, .int (nI x)), (2, .int (nI y)), (3, .ref r), (4, .ref (b + 2 + x)), (5, .ref (b + 2 + y)), (6, .int (nI i)), (7, .int (sgn (I (b + 10)) i)), (8, .int (nI j))] [] I (lay L r 32 (fun k => sumL (fun q => cI (I (b + 10)) (I (b + 2 + x)) (I (b + 2 + y)) q B k) i + cI (I (b + 10)) (I (b + 2 + x)) (I (b + 2 + y)) i j k))) B (fun h => by simp only [cI_0, Int64.add_zero] at h; exact h) (fun j hj ih2 => ?_) ?_
      · have hj32 : j < 32 := by omega
        have step : ∀ lv Lx, lv = [(0, .ref b), (1, .int (nI x)), (2, .int (nI y)), (3, .ref r), (4, .ref (b + 2 + x)), (5, .ref (b + 2 + y)), (6, .int (nI i)), (7, .int (sgn (I (b + 10)) i)), (8, .int (nI j))] → Lx = lay L r 32 (fun k => sumL (fun q => cI (I (b + 10)) (I (b + 2 + x)) (I (b + 2 + y)) q B k) i + cI (I (b + 10)) (I (b + 2 + x)) (I (b + 2 + y)) i (j + 1) k) → V 132 lv [] I Lx := fun lv Lx e1 e2 => by
          subst e1; subst e2
          refine ru_go hV 2 [] rfl rfl trivial ?_
          rw [nI_1]
          exact ih2
        refine ru_go hV 2 [] rfl rfl trivial ?_
        refine ru_V hV [.int (nI j)] sVX5_31 (hbl _) k0 rfl rfl rfl rfl (Nat.le_of_ble_eq_true rfl) ?_
        by_cases h1 : i &&& j = 0
        · have hor := or_lt i hi32 j hj32
          have eor : nI i ||| nI j = nI (i ||| j) := orI i hi32 j hj32
          by_cases h2 : I (b + 2 + y) (i ||| j) = 0
          · refine ru_go hV 11 [(0, 0), (0, 0), ((i|||j), 32), (1, 0)] rfl rfl ⟨⟨⟨⟨trivial, nI_nge hj hB2⟩, (fun e => e ((andI0 hi32 hj32).mpr h1))⟩, ⟨ky, eor, hor⟩⟩, h2⟩ ?_
            exact step _ _ rfl (lay_cong (fun k hk => by rw [cI_b0 h2]))
          · refine ru_go hV 32 [(0, 0), (0, 0), ((i|||j), 32), (0, 0), (i, 32), ((i|||j), 32), (j, 32)] rfl rfl ⟨⟨⟨⟨⟨⟨⟨trivial, nI_nge hj hB2⟩, (fun e => e ((andI0 hi32 hj32).mpr h1))⟩, ⟨ky, eor, hor⟩⟩, h2⟩, (by first | exact rfl | assumption | exact ⟨rfl, rfl⟩ | exact ⟨rfl, rfl, by omega⟩ | exact ⟨by assumption, rfl, by omega⟩ | exact ⟨⟨_, rfl, rfl⟩, by decide, by decide, rfl, by omega⟩ | omega | decide)⟩, ⟨ky, eor, hor⟩⟩, (by first | exact rfl | assumption | exact ⟨rfl, rfl⟩ | exact ⟨rfl, rfl, by omega⟩ | exact ⟨by assumption, rfl, by omega⟩ | exact ⟨⟨_, rfl, rfl⟩, by decide, by decide, rfl, by omega⟩ | omega | decide)⟩ ?_
            refine ru_S hV [.long _, .int _, .ref r] sSX5_27 (qX5_oddTurns l hi32 hj32 I _) rfl rfl rfl (Nat.le_of_ble_eq_true rfl) ?_
            have fin : ∀ o : Bool, o = odT i j → mu (lay L r 32 (fun k => sumL (fun q => cI (I (b + 10)) (I (b + 2 + x)) (I (b + 2 + y)) q B k) i + cI (I (b + 10)) (I (b + 2 + x)) (I (b + 2 + y)) i j k)) r j (lay L r 32 (fun k => sumL (fun q => cI (I (b + 10)) (I (b + 2 + x)) (I (b + 2 + y)) q B k) i + cI (I (b + 10)) (I (b + 2 + x)) (I (b + 2 + y)) i j k) r j + sg o ((I (b + 2 + x) i).toInt64 * (I (b + 2 + y) (i ||| j)).toInt64 * (sgn (I (b + 10)) i).toInt64)) = lay L r 32 (fun k => sumL (fun q => cI (I (b + 10)) (I (b + 2 + x)) (I (b + 2 + y)) q B k) i + cI (I (b + 10)) (I (b + 2 + x)) (I (b + 2 + y)) i (j + 1) k) := fun o ho => by
              obtain ⟨e1, e2⟩ := cI_hit (s := I (b + 10)) (a := I (b + 2 + x)) (b := I (b + 2 + y)) h1
              rw [lay_in hj32, lay_mu hj32, ho]
              refine lay_cong (fun k hk => ?_)
              by_cases hkk : k = j
              · subst hkk
                rw [if_pos rfl, e1, e2, Int64.add_zero]
              · rw [if_neg hkk, cI_miss (fun _ => hkk)]
            cases ho : odT i j with
            | false =>
              refine ru_go hV 4 [(1, 0), (j, 32)] rfl rfl ⟨⟨trivial, (by first | exact rfl | assumption | exact ⟨rfl, rfl⟩ | exact ⟨rfl, rfl, by omega⟩ | exact ⟨by assumption, rfl, by omega⟩ | exact ⟨⟨_, rfl, rfl⟩, by decide, by decide, rfl, by omega⟩ | omega | decide)⟩, (by first | exact rfl | assumption | exact ⟨rfl, rfl⟩ | exact ⟨rfl, rfl, by omega⟩ | exact ⟨by assumption, rfl, by omega⟩ | exact ⟨⟨_, rfl, rfl⟩, by decide, by decide, rfl, by omega⟩ | omega | decide)⟩ ?_
              exact ru_sub hV [0, 1, 2, 3, 4, 5, 6, 7, 8] rfl (step _ _ rfl (fin false ho.symm))
            | true =>
              refine ru_go hV 6 [(0, 0), (j, 32)] rfl rfl ⟨⟨trivial, (by first | exact rfl | assumption | exact ⟨rfl, rfl⟩ | exact ⟨rfl, rfl, by omega⟩ | exact ⟨by assumption, rfl, by omega⟩ | exact ⟨⟨_, rfl, rfl⟩, by decide, by decide, rfl, by omega⟩ | omega | decide)⟩, (by first | exact rfl | assumption | exact ⟨rfl, rfl⟩ | exact ⟨rfl, rfl, by omega⟩ | exact ⟨by assumption, rfl, by omega⟩ | exact ⟨⟨_, rfl, rfl⟩, by decide, by decide, rfl, by omega⟩ | omega | decide)⟩ ?_
              exact ru_sub hV [0, 1, 2, 3, 4, 5, 6, 7, 8] rfl (step _ _ rfl (fin true ho.symm))
        · refine ru_go hV 5 [(0, 0), (1, 0)] rfl rfl ⟨⟨trivial, nI_nge hj hB2⟩, (fun e => h1 ((andI0 hi32 hj32).mp e))⟩ ?_
          exact step _ _ rfl (lay_cong (fun k hk => by rw [cI_miss (fun e => absurd e h1)]))
      · refine ru_go hV 2 [] rfl rfl trivial ?_
        refine ru_V hV [.int (nI B)] sVX5_31 (hbl _) k0 rfl rfl rfl rfl (Nat.le_of_ble_eq_true rfl) ?_
        refine ru_go hV 1 [(1, 0)] rfl rfl ⟨trivial, nI_le (Nat.le_refl B) hB2⟩ ?_
        exact ru_sub hV [0, 1, 2, 3, 4, 5, 6] rfl (next _ _ rfl rfl)
  · refine ru_go hV 2 [] rfl rfl trivial ?_
    refine ru_V hV [.int (nI B)] sVX5_31 (hbl _) k0 rfl rfl rfl rfl (Nat.le_of_ble_eq_true rfl) ?_
    refine ru_fin hV 2 [(1, 0)] rfl rfl ⟨trivial, nI_le (Nat.le_refl B) hB2⟩ ?_
    exact ⟨rfl, rfl, rfl⟩
theorem qX5_starForm (l : Launch) {b x r n : Nat} (hb : isSt b) (hx : x < 8) (hr : kdC r = (2, 32, 0)) (hn : n ≤ 5) {I : IM} (hdim : I b 0 = nI n) (L : LM) : KX5_starForm l [.ref b, .int (nI x), .ref r] I L none I (lay L r 32 (fun k => stC (I (b + 10)) (I (b + 2 + x)) (2 ^ n) k)) := by
  have kx : kdC (b + 2 + x) = (1, 32, 0) := kd_row hb hx
  have ks := kd_sg hb
  have k0 := kd_st0 hb
  obtain ⟨hB, hB0⟩ := pow_le32 n hn
  have hbl : ∀ M : LM, KX6_blades l [.ref b] I M (some (.int (nI (2 ^ n)))) I M := fun M => qX6_blades l hb hn hdim M
  generalize 2 ^ n = B at hB hB0 hbl ⊢
  have hB2 : B < 2 ^ 31 := by omega
  have eB : nI B - 1 = nI (B - 1) := by
    obtain ⟨q, rfl⟩ : ∃ q, B = q + 1 := ⟨B - 1, by omega⟩
    exact nI_pred q
  refine wX5_starForm l rfl (hz0 (by decide)) (fun V hV => ?_)
  refine ru_go hV 6 [((b+1), 0), (x, 8), ((b+2+x), 5)] rfl rfl ⟨⟨trivial, ⟨k0, rfl⟩⟩, kd_fr hb hx⟩ ?_
  refine ru_V hV [] sVX5_31 (hbl _) k0 rfl rfl rfl rfl (Nat.le_of_ble_eq_true rfl) ?_
  refine ru_go hV 4 [] rfl rfl trivial ?_
  rw [eB]
  refine ru_S hV [] sSX5_21 (qX5_clear l hr I L) rfl rfl rfl (Nat.le_of_ble_eq_true rfl) ?_
  refine ru_go hV 2 [] rfl rfl trivial ?_
  refine loop0 (P := fun i => V 22 [(0, .ref b), (1, .int (nI x)), (2, .ref r), (3, .ref (b + 2 + x)), (4, .int (nI (B - 1))), (5, .int (nI i))] [] I (lay L r 32 (fun k => if k < i then stC (I (b + 10)) (I (b + 2 + x)) B k else 0))) B (fun h => by simp only [Nat.not_lt_zero, if_false] at h; exact h) (fun j hj ih => ?_) ?_
  · have hj32 : j < 32 := by omega
    have hB1 : B - 1 < 32 := by omega
    have hi32 := xor_lt (B - 1) hB1 j hj32
    have exr : nI (B - 1) ^^^ nI j = nI ((B - 1) ^^^ j) := xorI (B - 1) hB1 j hj32
    refine ru_go hV 14 [(0, 0), (((B-1)^^^j), 32), ((b+10), 0)] rfl rfl ⟨⟨⟨trivial, (fun e => nI_nlt (show j ≤ B - 1 by omega) (by omega) e)⟩, ⟨kx, exr, hi32⟩⟩, ⟨k0, rfl⟩⟩ ?_
    rw [exr]
    refine ru_S hV [.long _] sSX5_39 (qX5_signOfBlade l ks hi32 I _) rfl rfl rfl (Nat.le_of_ble_eq_true rfl) ?_
    refine ru_go hV 7 [] rfl rfl trivial ?_
    refine ru_S hV [.int _, .ref r] sSX5_27 (qX5_oddTurns l hi32 hj32 I _) rfl rfl rfl (Nat.le_of_ble_eq_true rfl) ?_
    have fin : ∀ o : Bool, o = odT ((B - 1) ^^^ j) j → mu (lay L r 32 (fun k => if k < j then stC (I (b + 10)) (I (b + 2 + x)) B k else 0)) r j (sg o ((I (b + 2 + x) ((B - 1) ^^^ j)).toInt64 * (sgn (I (b + 10)) ((B - 1) ^^^ j)).toInt64)) = lay L r 32 (fun k => if k < j + 1 then stC (I (b + 10)) (I (b + 2 + x)) B k else 0) := fun o ho => by
      rw [lay_mu hj32, ho]
      refine lay_cong (fun k hk => ?_)
      by_cases hkk : k = j
      · subst hkk
        rw [if_pos rfl, if_pos (Nat.lt_succ_self k), stC, if_pos hj]
      · have : k < j + 1 ↔ k < j := by omega
        simp only [hkk, if_false, this]
    cases ho : odT ((B - 1) ^^^ j) j with
    | false =>
      refine ru_go hV 5 [(1, 0), (j, 32)] rfl rfl ⟨⟨trivial, (by first | exact rfl | assumption | exact ⟨rfl, rfl⟩ | exact ⟨rfl, rfl, by omega⟩ | exact ⟨by assumption, rfl, by omega⟩ | exact ⟨⟨_, rfl, rfl⟩, by decide, by decide, rfl, by omega⟩ | omega | decide)⟩, (by first | exact rfl | assumption | exact ⟨rfl, rfl⟩ | exact ⟨rfl, rfl, by omega⟩ | exact ⟨by assumption, rfl, by omega⟩ | exact ⟨⟨_, rfl, rfl⟩, by decide, by decide, rfl, by omega⟩ | omega | decide)⟩ ?_
      refine ru_sub hV [0, 1, 2, 3, 4, 5] rfl ?_
      rw [nI_1]
      rw [← fin false ho.symm] at ih
      exact ih
    | true =>
      refine ru_go hV 7 [(0, 0), (j, 32)] rfl rfl ⟨⟨trivial, (by first | exact rfl | assumption | exact ⟨rfl, rfl⟩ | exact ⟨rfl, rfl, by omega⟩ | exact ⟨by assumption, rfl, by omega⟩ | exact ⟨⟨_, rfl, rfl⟩, by decide, by decide, rfl, by omega⟩ | omega | decide)⟩, (by first | exact rfl | assumption | exact ⟨rfl, rfl⟩ | exact ⟨rfl, rfl, by omega⟩ | exact ⟨by assumption, rfl, by omega⟩ | exact ⟨⟨_, rfl, rfl⟩, by decide, by decide, rfl, by omega⟩ | omega | decide)⟩ ?_
      refine ru_sub hV [0, 1, 2, 3, 4, 5] rfl ?_
      rw [nI_1]
      rw [← fin true ho.symm] at ih
      exact ih
  · refine ru_fin hV 4 [(1, 0)] rfl rfl ⟨trivial, nI_lt (show B - 1 < B by omega) hB2⟩ ?_
    exact ⟨rfl, rfl, lay_cong (fun k _ => by unfold stC; split <;> rfl)⟩
theorem qX5_partOfForm (l : Launch) {b x r : Nat} {z : Int32} (hb : isSt b) (hx : x < 8) (hr : kdC r = (2, 32, 0)) (I : IM) (L : LM) : KX5_partOfForm l [.ref b, .int (nI x), .int z, .ref r] I L none I (lay L r 32 (fun k => if nI (pc5 k) = z then (I (b + 2 + x) k).toInt64 else 0)) := by
  have kx : kdC (b + 2 + x) = (1, 32, 0) := kd_row hb hx
  refine wX5_partOfForm l rfl (hz0 (by decide)) (fun V hV => ?_)
  refine ru_go hV 7 [((b+1), 0), (x, 8), ((b+2+x), 5)] rfl rfl ⟨⟨trivial, ⟨kd_st0 hb, rfl⟩⟩, kd_fr hb hx⟩ ?_
  refine loop0 (P := fun k => V 11 [(0, .ref b), (1, .int (nI x)), (2, .int z), (3, .ref r), (4, .ref (b + 2 + x)), (5, .int (nI k))] [] I (lay L r k (fun k => if nI (pc5 k) = z then (I (b + 2 + x) k).toInt64 else 0))) 32 (fun h => by rw [lay_0] at h; exact h) (fun k hk ih => ?_) ?_
  · refine ru_go hV 6 [(0, 0)] rfl rfl ⟨trivial, nI32_ge hk⟩ ?_
    refine ru_S hV [.int _, .ref r] sSX5_9 (qJ6_bitCount l hk I _) rfl rfl rfl (Nat.le_of_ble_eq_true rfl) ?_
    by_cases h : nI (pc5 k) = z
    · refine ru_go hV 10 [(0, 0), (k, 32), (k, 32)] rfl rfl ⟨⟨⟨trivial, (fun e => e h)⟩, (by first | exact rfl | assumption | exact ⟨rfl, rfl⟩ | exact ⟨rfl, rfl, by omega⟩ | exact ⟨by assumption, rfl, by omega⟩ | exact ⟨⟨_, rfl, rfl⟩, by decide, by decide, rfl, by omega⟩ | omega | decide)⟩, (by first | exact rfl | assumption | exact ⟨rfl, rfl⟩ | exact ⟨rfl, rfl, by omega⟩ | exact ⟨by assumption, rfl, by omega⟩ | exact ⟨⟨_, rfl, rfl⟩, by decide, by decide, rfl, by omega⟩ | omega | decide)⟩ ?_
      rw [nI_1, lay_up (f := fun k => if nI (pc5 k) = z then (I (b + 2 + x) k).toInt64 else 0) (by simp [h])]
      exact ih
    · refine ru_go hV 6 [(1, 0), (k, 32)] rfl rfl ⟨⟨trivial, (by first | exact rfl | assumption | exact ⟨rfl, rfl⟩ | exact ⟨rfl, rfl, by omega⟩ | exact ⟨by assumption, rfl, by omega⟩ | exact ⟨⟨_, rfl, rfl⟩, by decide, by decide, rfl, by omega⟩ | omega | decide)⟩, (by first | exact rfl | assumption | exact ⟨rfl, rfl⟩ | exact ⟨rfl, rfl, by omega⟩ | exact ⟨by assumption, rfl, by omega⟩ | exact ⟨⟨_, rfl, rfl⟩, by decide, by decide, rfl, by omega⟩ | omega | decide)⟩ ?_
      rw [nI_1, lay_up (f := fun k => if nI (pc5 k) = z then (I (b + 2 + x) k).toInt64 else 0) (by simp [h])]
      exact ih
  · refine ru_fin hV 4 [(1, 0)] rfl rfl ⟨trivial, (by first | exact rfl | assumption | exact ⟨rfl, rfl⟩ | exact ⟨rfl, rfl, by omega⟩ | exact ⟨by assumption, rfl, by omega⟩ | exact ⟨⟨_, rfl, rfl⟩, by decide, by decide, rfl, by omega⟩ | omega | decide)⟩ ?_
    exact ⟨rfl, rfl, rfl⟩
theorem qX5_reverseForm (l : Launch) {b x r : Nat} (hb : isSt b) (hx : x < 8) (hr : kdC r = (2, 32, 0)) (I : IM) (L : LM) : KX5_reverseForm l [.ref b, .int (nI x), .ref r] I L none I (lay L r 32 (fun k => if 2 ≤ pc5 k % 4 then (-(I (b + 2 + x) k)).toInt64 else (I (b + 2 + x) k).toInt64)) := by
  have kx : kdC (b + 2 + x) = (1, 32, 0) := kd_row hb hx
  refine wX5_reverseForm l rfl (hz0 (by decide)) (fun V hV => ?_)
  refine ru_go hV 7 [((b+1), 0), (x, 8), ((b+2+x), 5)] rfl rfl ⟨⟨trivial, ⟨kd_st0 hb, rfl⟩⟩, kd_fr hb hx⟩ ?_
  refine loop0 (P := fun k => V 10 [(0, .ref b), (1, .int (nI x)), (2, .ref r), (3, .ref (b + 2 + x)), (4, .int (nI k))] [] I (lay L r k (fun k => if 2 ≤ pc5 k % 4 then (-(I (b + 2 + x) k)).toInt64 else (I (b + 2 + x) k).toInt64))) 32 (fun h => by rw [lay_0] at h; exact h) (fun k hk ih => ?_) ?_
  · refine ru_go hV 4 [(0, 0)] rfl rfl ⟨trivial, nI32_ge hk⟩ ?_
    refine ru_S hV [] sSX5_9 (qJ6_bitCount l hk I _) rfl rfl rfl (Nat.le_of_ble_eq_true rfl) ?_
    have hrv : (nI (pc5 k) &&& 3 < 2) ↔ ¬ 2 ≤ pc5 k % 4 := (by decide +kernel : ∀ k, k < 32 → ((nI (pc5 k) &&& 3 < 2) ↔ ¬ 2 ≤ pc5 k % 4)) k hk
    by_cases h : 2 ≤ pc5 k % 4
    · refine ru_go hV 20 [(0, 0), (0, 0), (k, 32), (k, 32)] rfl rfl ⟨⟨⟨⟨trivial, (fun e => hrv.mp e h)⟩, (by first | exact rfl | assumption | exact ⟨rfl, rfl⟩ | exact ⟨rfl, rfl, by omega⟩ | exact ⟨by assumption, rfl, by omega⟩ | exact ⟨⟨_, rfl, rfl⟩, by decide, by decide, rfl, by omega⟩ | omega | decide)⟩, (by first | exact rfl | assumption | exact ⟨rfl, rfl⟩ | exact ⟨rfl, rfl, by omega⟩ | exact ⟨by assumption, rfl, by omega⟩ | exact ⟨⟨_, rfl, rfl⟩, by decide, by decide, rfl, by omega⟩ | omega | decide)⟩, (by first | exact rfl | assumption | exact ⟨rfl, rfl⟩ | exact ⟨rfl, rfl, by omega⟩ | exact ⟨by assumption, rfl, by omega⟩ | exact ⟨⟨_, rfl, rfl⟩, by decide, by decide, rfl, by omega⟩ | omega | decide)⟩ ?_
      refine ru_sub hV [0, 1, 2, 3, 4] rfl ?_
      rw [nI_1, lay_up (f := fun k => if 2 ≤ pc5 k % 4 then (-(I (b + 2 + x) k)).toInt64 else (I (b + 2 + x) k).toInt64) (by simp [h])]
      exact ih
    · refine ru_go hV 17 [(1, 0), (1, 0), (k, 32), (k, 32)] rfl rfl ⟨⟨⟨⟨trivial, hrv.mpr h⟩, (by first | exact rfl | assumption | exact ⟨rfl, rfl⟩ | exact ⟨rfl, rfl, by omega⟩ | exact ⟨by assumption, rfl, by omega⟩ | exact ⟨⟨_, rfl, rfl⟩, by decide, by decide, rfl, by omega⟩ | omega | decide)⟩, (by first | exact rfl | assumption | exact ⟨rfl, rfl⟩ | exact ⟨rfl, rfl, by omega⟩ | exact ⟨by assumption, rfl, by omega⟩ | exact ⟨⟨_, rfl, rfl⟩, by decide, by decide, rfl, by omega⟩ | omega | decide)⟩, (by first | exact rfl | assumption | exact ⟨rfl, rfl⟩ | exact ⟨rfl, rfl, by omega⟩ | exact ⟨by assumption, rfl, by omega⟩ | exact ⟨⟨_, rfl, rfl⟩, by decide, by decide, rfl, by omega⟩ | omega | decide)⟩ ?_
      refine ru_sub hV [0, 1, 2, 3, 4] rfl ?_
      rw [nI_1, lay_up (f := fun k => if 2 ≤ pc5 k % 4 then (-(I (b + 2 + x) k)).toInt64 else (I (b + 2 + x) k).toInt64) (by simp [h])]
      exact ih
  · refine ru_fin hV 4 [(1, 0)] rfl rfl ⟨trivial, (by first | exact rfl | assumption | exact ⟨rfl, rfl⟩ | exact ⟨rfl, rfl, by omega⟩ | exact ⟨by assumption, rfl, by omega⟩ | exact ⟨⟨_, rfl, rfl⟩, by decide, by decide, rfl, by omega⟩ | omega | decide)⟩ ?_
    exact ⟨rfl, rfl, rfl⟩
end
section
theorem qX5_innerOfForms (l : Launch) {b x y n : Nat} (hb : isSt b) (hx : x < 8) (hy : y < 8) (hn : n ≤ 5) {I : IM} (hdim : I b 0 = nI n) (L : LM) : KX5_innerOfForms l [.ref b, .int (nI x), .int (nI y)] I L (some (.long (inC (I (b + 10)) (I (b + 2 + x)) (I (b + 2 + y)) (2 ^ n)))) I L := by
  have kx : kdC (b + 2 + x) = (1, 32, 0) := kd_row hb hx
  have ky : kdC (b + 2 + y) = (1, 32, 0) := kd_row hb hy
  have ks := kd_sg hb
  have k0 := kd_st0 hb
  obtain ⟨hB, -⟩ := pow_le32 n hn
  have hbl : ∀ M : LM, KX6_blades l [.ref b] I M (some (.int (nI (2 ^ n)))) I M := fun M => qX6_blades l hb hn hdim M
  generalize 2 ^ n = B at hB hbl ⊢
  have hB2 : B < 2 ^ 31 := by omega
  refine wX5_innerOfForms l rfl (hz0 (by decide)) (fun V hV => ?_)
  refine ru_go hV 4 [] rfl rfl trivial ?_
  refine loop0 (P := fun i => V 5 [(0, .ref b), (1, .int (nI x)), (2, .int (nI y)), (3, .long (inC (I (b + 10)) (I (b + 2 + x)) (I (b + 2 + y)) i)), (5, .int (nI i))] [] I L) B (fun h => h) (fun i hi ih => ?_) ?_
  · have hi32 : i < 32 := by omega
    refine ru_go hV 2 [] rfl rfl trivial ?_
    refine ru_V hV [.int (nI i)] sVX5_31 (hbl _) k0 rfl rfl rfl rfl (Nat.le_of_ble_eq_true rfl) ?_
    refine ru_go hV 22 [(0, 0), ((b+1), 0), (x, 8), ((b+2+x), 5), (i, 32), ((b+1), 0), (y, 8), ((b+2+y), 5), (i, 32), ((b+10), 0)] rfl rfl ⟨⟨⟨⟨⟨⟨⟨⟨trivial, nI_nge hi hB2⟩, ⟨k0, rfl⟩⟩, kd_fr hb hx⟩, (by first | exact rfl | assumption | exact ⟨rfl, rfl⟩ | exact ⟨rfl, rfl, by omega⟩ | exact ⟨by assumption, rfl, by omega⟩ | exact ⟨⟨_, rfl, rfl⟩, by decide, by decide, rfl, by omega⟩ | omega | decide)⟩, ⟨k0, rfl⟩⟩, kd_fr hb hy⟩, (by first | exact rfl | assumption | exact ⟨rfl, rfl⟩ | exact ⟨rfl, rfl, by omega⟩ | exact ⟨by assumption, rfl, by omega⟩ | exact ⟨⟨_, rfl, rfl⟩, by decide, by decide, rfl, by omega⟩ | omega | decide)⟩, ⟨k0, rfl⟩⟩ ?_
    refine ru_S hV [.long _, .long _] sSX5_39 (qX5_signOfBlade l ks hi32 I _) rfl rfl rfl (Nat.le_of_ble_eq_true rfl) ?_
    refine ru_go hV 6 [] rfl rfl trivial ?_
    rw [nI_1]
    exact ru_sub hV [0, 1, 2, 3, 4] rfl ih
  · refine ru_go hV 2 [] rfl rfl trivial ?_
    refine ru_V hV [.int (nI B)] sVX5_31 (hbl _) k0 rfl rfl rfl rfl (Nat.le_of_ble_eq_true rfl) ?_
    refine ru_fin hV 3 [(1, 0)] rfl rfl ⟨trivial, nI_le (Nat.le_refl B) hB2⟩ ?_
    exact ⟨rfl, rfl, rfl⟩
theorem qX5_wedgeWithColumn (l : Launch) {b t c n r : Nat} (hb : isSt b) (ht : t < 32) (hc : c < 5) (hr : kdC r = (2, 32, 0)) (hn : n ≤ 5) {I : IM} (hdim : I b 0 = nI n) (L : LM) : KX5_wedgeWithColumn l [.ref b, .int (nI t), .int (nI c), .ref r] I L (some (.long (wcs (fun q p => I (b + 12 + q) p) n c (L r) t))) I L := by
  have k0 := kd_st0 hb
  refine wX5_wedgeWithColumn l rfl (hz0 (by decide)) (fun V hV => ?_)
  refine ru_go hV 4 [] rfl rfl trivial ?_
  refine loop0 (P := fun q => V 6 [(0, .ref b), (1, .int (nI t)), (2, .int (nI c)), (3, .ref r), (4, .long (wcs (fun q p => I (b + 12 + q) p) q c (L r) t)), (6, .int (nI q))] [] I L) n (fun h => h) (fun q hq ih => ?_) ?_
  · have hq5 : q < 5 := by omega
    have hp := pow2_lt q hq5
    have esh := bl_sh q (by omega)
    have km := kd_mrow (x := q) hb hq5
    refine ru_go hV 8 [(0, 0)] rfl rfl ⟨⟨trivial, k0⟩, (by rw [hdim]; exact nI_nge hq (by omega))⟩ ?_
    rw [esh]
    by_cases h : t.testBit q = true
    · have hx := xor_lt t ht (2 ^ q) hp
      have ex := xorI t ht (2 ^ q) hp
      refine ru_go hV 4 [(0, 0)] rfl rfl ⟨trivial, (fun e => by rw [(tb_and t ht q hq5).mp e] at h; cases h)⟩ ?_
      refine ru_go hV 4 [] rfl rfl trivial ?_
      rw [ex]
      refine ru_go hV 15 [((t^^^2^q), 32), ((b+11), 0), (q, 5), ((b+12+q), 5), (c, 5)] rfl rfl ⟨⟨⟨⟨trivial, (by first | exact rfl | assumption | exact ⟨rfl, rfl⟩ | exact ⟨rfl, rfl, by omega⟩ | exact ⟨by assumption, rfl, by omega⟩ | exact ⟨⟨_, rfl, rfl⟩, by decide, by decide, rfl, by omega⟩ | omega | decide)⟩, ⟨k0, rfl⟩⟩, kd_mr hb hq5⟩, (by first | exact rfl | assumption | exact ⟨rfl, rfl⟩ | exact ⟨rfl, rfl, by omega⟩ | exact ⟨by assumption, rfl, by omega⟩ | exact ⟨⟨_, rfl, rfl⟩, by decide, by decide, rfl, by omega⟩ | omega | decide)⟩ ?_
      refine ru_S hV [.long _] sSX5_27 (qX5_oddTurns l hx hp I L) rfl rfl rfl (Nat.le_of_ble_eq_true rfl) ?_
      have fin : ∀ o : Bool, o = odT (t ^^^ 2 ^ q) (2 ^ q) → wcs (fun q p => I (b + 12 + q) p) q c (L r) t + sg o (L r (t ^^^ 2 ^ q) * (I (b + 12 + q) c).toInt64) = wcs (fun q p => I (b + 12 + q) p) (q + 1) c (L r) t := fun o ho => by
        simp only [wcs, sumL, h, if_true, ho]
      cases ho : odT (t ^^^ 2 ^ q) (2 ^ q) with
      | false =>
        refine ru_go hV 6 [(1, 0)] rfl rfl ⟨trivial, (by first | exact rfl | assumption | exact ⟨rfl, rfl⟩ | exact ⟨rfl, rfl, by omega⟩ | exact ⟨by assumption, rfl, by omega⟩ | exact ⟨⟨_, rfl, rfl⟩, by decide, by decide, rfl, by omega⟩ | omega | decide)⟩ ?_
        rw [nI_1]
        refine ru_sub hV [0, 1, 2, 3, 4, 5] rfl ?_
        rw [← fin false ho.symm] at ih
        exact ih
      | true =>
        refine ru_go hV 8 [(0, 0)] rfl rfl ⟨trivial, (by first | exact rfl | assumption | exact ⟨rfl, rfl⟩ | exact ⟨rfl, rfl, by omega⟩ | exact ⟨by assumption, rfl, by omega⟩ | exact ⟨⟨_, rfl, rfl⟩, by decide, by decide, rfl, by omega⟩ | omega | decide)⟩ ?_
        rw [nI_1]
        refine ru_sub hV [0, 1, 2, 3, 4, 5] rfl ?_
        rw [← fin true ho.symm] at ih
        exact ih
    · refine ru_go hV 6 [(1, 0)] rfl rfl ⟨trivial, (tb_and t ht q hq5).mpr (by simpa using h)⟩ ?_
      rw [nI_1]
      refine ru_sub hV [0, 1, 2, 3, 4, 5] rfl ?_
      have e : wcs (fun q p => I (b + 12 + q) p) (q + 1) c (L r) t = wcs (fun q p => I (b + 12 + q) p) q c (L r) t := by simp [wcs, sumL, h]
      rw [e] at ih
      exact ih
  · refine ru_fin hV 6 [(1, 0)] rfl rfl ⟨⟨trivial, k0⟩, (by rw [hdim]; exact nI_le (Nat.le_refl n) (by omega))⟩ ?_
    exact ⟨rfl, rfl, rfl⟩
theorem qX5_pushBlade (l : Launch) {b t n r : Nat} (hb : isSt b) (hn : n ≤ 5) (ht : t < 2 ^ n) (hr : kdC r = (2, 32, 0)) {I : IM} (hdim : I b 0 = nI n) (L : LM) : KX5_pushBlade l [.ref b, .int (nI t), .ref r] I L none I (lay L r 32 (ig (fun q p => I (b + 12 + q) p) n t (L r) n)) := by
  have k0 := kd_st0 hb
  have ht32 := pow_mono n hn t ht
  obtain ⟨hB, -⟩ := pow_le32 n hn
  have hbl : ∀ M : LM, KX6_blades l [.ref b] I M (some (.int (nI (2 ^ n)))) I M := fun M => qX6_blades l hb hn hdim M
  have hB2 : 2 ^ n < 2 ^ 31 := by omega
  refine wX5_pushBlade l rfl (hz0 (by decide)) (fun V hV => ?_)
  refine ru_go hV 8 [(0, 32)] rfl rfl ⟨trivial, ⟨hr, rfl, by decide⟩⟩ ?_
  have e0 : mu L r 0 1 = lay L r 32 (ig (fun q p => I (b + 12 + q) p) n t (L r) 0) := by
    have : mu (lay L r 32 (L r)) r 0 1 = lay L r 32 (fun q => if q = 0 then 1 else L r q) := lay_mu (by decide)
    rw [lay_self] at this
    exact this
  rw [e0]
  refine loop0 (P := fun c => V 9 [(0, .ref b), (1, .int (nI t)), (2, .ref r), (3, .int (nI (pcl t c))), (4, .int (nI c))] [] I (lay L r 32 (ig (fun q p => I (b + 12 + q) p) n t (L r) c))) n (fun h => h) (fun c hc ih => ?_) ?_
  · have hc5 : c < 5 := by omega
    have next : ∀ lv Lx, lv = [(0, .ref b), (1, .int (nI t)), (2, .ref r), (3, .int (nI (pcl t (c + 1)))), (4, .int (nI c))] → Lx = lay L r 32 (ig (fun q p => I (b + 12 + q) p) n t (L r) (c + 1)) → V 73 lv [] I Lx := fun lv Lx e1 e2 => by
      subst e1; subst e2
      refine ru_go hV 2 [] rfl rfl trivial ?_
      rw [nI_1]
      exact ih
    by_cases h : t.testBit c = true
    · have epcl : pcl t (c + 1) = pcl t c + 1 := by simp [pcl, h]
      refine ru_go hV 13 [(0, 0), (1, 0)] rfl rfl ⟨⟨⟨trivial, k0⟩, (by rw [hdim]; exact nI_nge hc (by omega))⟩, (fun e => by rw [(bit_tst0 t ht32 c hc5).mp e] at h; cases h)⟩ ?_
      rw [nI_1, ← epcl]
      have hg := pcl_le (c + 1) (by omega) t ht32
      refine loop0 (P := fun j => V 36 [(0, .ref b), (1, .int (nI t)), (2, .ref r), (3, .int (nI (pcl t (c + 1)))), (4, .int (nI c)), (5, .int (nI j))] [] I (lay L r 32 (fun k => if k < j ∧ pc5 k = pcl t (c + 1) then wcs (fun q p => I (b + 12 + q) p) n c (ig (fun q p => I (b + 12 + q) p) n t (L r) c) k else ig (fun q p => I (b + 12 + q) p) n t (L r) c k))) (2 ^ n) (fun h => by simp only [Nat.not_lt_zero, false_and, if_false] at h; exact h) (fun j hj ih2 => ?_) ?_
      · have hj32 : j < 32 := by omega
        refine ru_go hV 2 [] rfl rfl trivial ?_
        refine ru_V hV [.int (nI j)] sVX5_31 (hbl _) k0 rfl rfl rfl rfl (Nat.le_of_ble_eq_true rfl) ?_
        refine ru_go hV 2 [(0, 0)] rfl rfl ⟨trivial, nI_nge hj hB2⟩ ?_
        refine ru_S hV [] sSX5_9 (qJ6_bitCount l hj32 I _) rfl rfl rfl (Nat.le_of_ble_eq_true rfl) ?_
        have hj5 := pc5_le j
        by_cases hg1 : pc5 j = pcl t (c + 1)
        · refine ru_go hV 8 [(0, 0)] rfl rfl ⟨trivial, (fun e => e (by rw [hg1]))⟩ ?_
          refine ru_S hV [.int _, .ref r] sSX5_51 (qX5_wedgeWithColumn l hb hj32 hc5 hr hn hdim _) rfl rfl rfl (Nat.le_of_ble_eq_true rfl) ?_
          refine ru_go hV 3 [(j, 32)] rfl rfl ⟨trivial, (by first | exact rfl | assumption | exact ⟨rfl, rfl⟩ | exact ⟨rfl, rfl, by omega⟩ | exact ⟨by assumption, rfl, by omega⟩ | exact ⟨⟨_, rfl, rfl⟩, by decide, by decide, rfl, by omega⟩ | omega | decide)⟩ ?_
          rw [nI_1, lay_mu hj32]
          have e1 : ∀ f : Nat → Int64, (∀ q, q < n → j.testBit q = true → f (j ^^^ 2 ^ q) = ig (fun q p => I (b + 12 + q) p) n t (L r) c (j ^^^ 2 ^ q)) → wcs (fun q p => I (b + 12 + q) p) n c f j = wcs (fun q p => I (b + 12 + q) p) n c (ig (fun q p => I (b + 12 + q) p) n t (L r) c) j := fun f hf => by
            unfold wcs
            refine sumL_cong (fun q hq => ?_)
            by_cases hbq : j.testBit q = true
            · simp only [hbq, if_true]
              rw [hf q hq hbq]
            · simp only [hbq]
              rfl
          rw [e1 _ (fun q hq hbq => by
            obtain ⟨d1, d2⟩ := pc5_drop j hj32 q (by omega) hbq
            rw [lay_in (by omega), if_neg (fun z => by have := z.2; omega)])]
          refine ru_sub hV [0, 1, 2, 3, 4, 5] rfl ?_
          have e2 : ∀ k, k < 32 → (if k = j then wcs (fun q p => I (b + 12 + q) p) n c (ig (fun q p => I (b + 12 + q) p) n t (L r) c) j else if k < j ∧ pc5 k = pcl t (c + 1) then wcs (fun q p => I (b + 12 + q) p) n c (ig (fun q p => I (b + 12 + q) p) n t (L r) c) k else ig (fun q p => I (b + 12 + q) p) n t (L r) c k) = (if k < j + 1 ∧ pc5 k = pcl t (c + 1) then wcs (fun q p => I (b + 12 + q) p) n c (ig (fun q p => I (b + 12 + q) p) n t (L r) c) k else ig (fun q p => I (b + 12 + q) p) n t (L r) c k) := fun k _ => by
            by_cases hkj : k = j
            · subst hkj
              rw [if_pos rfl, if_pos ⟨Nat.lt_succ_self k, hg1⟩]
            · have : k < j + 1 ↔ k < j := by omega
              simp only [hkj, if_false, this]
          rw [lay_cong e2]
          exact ih2
        · refine ru_go hV 4 [(1, 0)] rfl rfl ⟨trivial, (fun e => hg1 ((nI_eq (by omega) (by omega)).mp e))⟩ ?_
          rw [nI_1]
          refine ru_sub hV [0, 1, 2, 3, 4, 5] rfl ?_
          have e2 : ∀ k, k < 32 → (if k < j + 1 ∧ pc5 k = pcl t (c + 1) then wcs (fun q p => I (b + 12 + q) p) n c (ig (fun q p => I (b + 12 + q) p) n t (L r) c) k else ig (fun q p => I (b + 12 + q) p) n t (L r) c k) = (if k < j ∧ pc5 k = pcl t (c + 1) then wcs (fun q p => I (b + 12 + q) p) n c (ig (fun q p => I (b + 12 + q) p) n t (L r) c) k else ig (fun q p => I (b + 12 + q) p) n t (L r) c k) := fun k _ => by
            by_cases hkj : k = j
            · subst hkj
              rw [if_neg (fun z => hg1 z.2), if_neg (fun z => hg1 z.2)]
            · have : k < j + 1 ↔ k < j := by omega
              simp only [this]
          rw [lay_cong e2] at ih2
          exact ih2
      · refine ru_go hV 2 [] rfl rfl trivial ?_
        refine ru_V hV [.int (nI (2^n))] sVX5_31 (hbl _) k0 rfl rfl rfl rfl (Nat.le_of_ble_eq_true rfl) ?_
        refine ru_go hV 1 [(1, 0)] rfl rfl ⟨trivial, nI_le (Nat.le_refl _) hB2⟩ ?_
        exact ru_sub hV [0, 1, 2, 3, 4] rfl (next _ _ rfl (by simp only [ig, h, if_true]))
    · refine ru_go hV 11 [(0, 0), (0, 0)] rfl rfl ⟨⟨⟨trivial, k0⟩, (by rw [hdim]; exact nI_nge hc (by omega))⟩, (fun e => e ((bit_tst0 t ht32 c hc5).mpr (by simpa using h)))⟩ ?_
      exact next _ _ (by simp [pcl, h]) (by simp [ig, h])
  · refine ru_fin hV 5 [(1, 0)] rfl rfl ⟨⟨trivial, k0⟩, (by rw [hdim]; exact nI_le (Nat.le_refl n) (by omega))⟩ ?_
    exact ⟨rfl, rfl, rfl⟩
end
section
theorem qX5_determinant (l : Launch) {b n r : Nat} (hb : isSt b) (hn : n ≤ 5) (hr : kdC r = (2, 32, 0)) {I : IM} (hdim : I b 0 = nI n) (L : LM) : ∃ f, KX5_determinant l [.ref b, .ref r] I L (some (.int (gw (fun q p => I (b + 12 + q) p) n (2 ^ n - 1) n (2 ^ n - 1)).toInt32)) I (lay L r 32 f) := by
  have k0 := kd_st0 hb
  obtain ⟨hB, hB0⟩ := pow_le32 n hn
  have eB : nI (2 ^ n) - 1 = nI (2 ^ n - 1) := by
    obtain ⟨q, hq⟩ : ∃ q, 2 ^ n = q + 1 := ⟨2 ^ n - 1, by omega⟩
    rw [hq]
    exact nI_pred q
  have h1 : 2 ^ n - 1 < 2 ^ n := by omega
  refine ⟨ig (fun q p => I (b + 12 + q) p) n (2 ^ n - 1) (L r) n, ?_⟩
  refine wX5_determinant l rfl (hz0 (by decide)) (fun V hV => ?_)
  refine ru_go hV 1 [] rfl rfl trivial ?_
  refine ru_V hV [] sVX5_31 (qX6_blades l hb hn hdim L) k0 rfl rfl rfl rfl (Nat.le_of_ble_eq_true rfl) ?_
  refine ru_go hV 3 [] rfl rfl trivial ?_
  rw [eB]
  refine ru_go hV 3 [] rfl rfl trivial ?_
  refine ru_S hV [] sSX5_43 (qX5_pushBlade l hb hn h1 hr hdim L) rfl rfl rfl (Nat.le_of_ble_eq_true rfl) ?_
  refine ru_fin hV 5 [((2^n-1), 32)] rfl rfl ⟨trivial, ⟨hr, rfl, by omega⟩⟩ ?_
  refine ⟨?_, rfl, rfl⟩
  rw [lay_in (by omega), ig_gw hn n _ h1 (by rw [pcl_all n hn _ h1])]
  rfl
theorem qX5_pushForm (l : Launch) {b x n im r : Nat} (hb : isSt b) (hx : x < 8) (hn : n ≤ 5) (him : kdC im = (2, 32, 0)) (hr : kdC r = (2, 32, 0)) (hne : im ≠ r) {I : IM} (hdim : I b 0 = nI n) (L : LM) : ∃ f, KX5_pushForm l [.ref b, .int (nI x), .ref im, .ref r] I L none I (lay (lay L im 32 f) r 32 (puC (fun q p => I (b + 12 + q) p) n (I (b + 2 + x)))) := by
  have kx : kdC (b + 2 + x) = (1, 32, 0) := kd_row hb hx
  have k0 := kd_st0 hb
  obtain ⟨hB, hB0⟩ := pow_le32 n hn
  have hB2 : 2 ^ n < 2 ^ 31 := by omega
  have hbl : ∀ M : LM, KX6_blades l [.ref b] I M (some (.int (nI (2 ^ n)))) I M := fun M => qX6_blades l hb hn hdim M
  generalize hm : (fun q p => I (b + 12 + q) p) = m
  refine ⟨igF m n (I (b + 2 + x)) (L im) (2 ^ n), ?_⟩
  refine wX5_pushForm l rfl (hz0 (by decide)) (fun V hV => ?_)
  refine ru_go hV 6 [((b+1), 0), (x, 8), ((b+2+x), 5)] rfl rfl ⟨⟨trivial, ⟨k0, rfl⟩⟩, kd_fr hb hx⟩ ?_
  refine ru_S hV [] sSX5_21 (qX5_clear l hr I L) rfl rfl rfl (Nat.le_of_ble_eq_true rfl) ?_
  refine ru_go hV 2 [] rfl rfl trivial ?_
  refine loop0 (P := fun i => V 15 [(0, .ref b), (1, .int (nI x)), (2, .ref im), (3, .ref r), (4, .ref (b + 2 + x)), (5, .int (nI i))] [] I (lay (lay L im 32 (igF m n (I (b + 2 + x)) (L im) i)) r 32 (fun k => sumL (puI m n (I (b + 2 + x)) k) i))) (2 ^ n) (fun h => by rw [igF, lay_self] at h; exact h) (fun i hi ih => ?_) ?_
  · have hi32 : i < 32 := by omega
    have next : ∀ lv Lx, lv = [(0, .ref b), (1, .int (nI x)), (2, .ref im), (3, .ref r), (4, .ref (b + 2 + x)), (5, .int (nI i))] → Lx = (lay (lay L im 32 (igF m n (I (b + 2 + x)) (L im) (i + 1))) r 32 (fun k => sumL (puI m n (I (b + 2 + x)) k) (i + 1))) → V 91 lv [] I Lx := fun lv Lx e1 e2 => by
      subst e1; subst e2
      refine ru_go hV 2 [] rfl rfl trivial ?_
      rw [nI_1]
      exact ih
    refine ru_go hV 2 [] rfl rfl trivial ?_
    refine ru_V hV [.int (nI i)] sVX5_31 (hbl _) k0 rfl rfl rfl rfl (Nat.le_of_ble_eq_true rfl) ?_
    by_cases h0 : I (b + 2 + x) i = 0
    · refine ru_go hV 6 [(0, 0), (i, 32), (0, 0)] rfl rfl ⟨⟨⟨trivial, nI_nge hi hB2⟩, (by first | exact rfl | assumption | exact ⟨rfl, rfl⟩ | exact ⟨rfl, rfl, by omega⟩ | exact ⟨by assumption, rfl, by omega⟩ | exact ⟨⟨_, rfl, rfl⟩, by decide, by decide, rfl, by omega⟩ | omega | decide)⟩, (fun e => e h0)⟩ ?_
      refine next _ _ rfl ?_
      rw [igF, if_pos h0]
      exact lay_cong (fun k _ => by rw [sumL, puI_a0 h0, Int64.add_zero])
    · refine ru_go hV 8 [(0, 0), (i, 32), (1, 0)] rfl rfl ⟨⟨⟨trivial, nI_nge hi hB2⟩, (by first | exact rfl | assumption | exact ⟨rfl, rfl⟩ | exact ⟨rfl, rfl, by omega⟩ | exact ⟨by assumption, rfl, by omega⟩ | exact ⟨⟨_, rfl, rfl⟩, by decide, by decide, rfl, by omega⟩ | omega | decide)⟩, h0⟩ ?_
      refine ru_S hV [] sSX5_43 (qX5_pushBlade l hb hn hi him hdim _) rfl rfl rfl (Nat.le_of_ble_eq_true rfl) ?_
      rw [hm]
      have eim : lay (lay (lay L im 32 (igF m n (I (b + 2 + x)) (L im) i)) r 32 (fun k => sumL (puI m n (I (b + 2 + x)) k) i)) im 32 (ig m n i ((lay (lay L im 32 (igF m n (I (b + 2 + x)) (L im) i)) r 32 (fun k => sumL (puI m n (I (b + 2 + x)) k) i)) im) n) = lay (lay L im 32 (igF m n (I (b + 2 + x)) (L im) (i + 1))) r 32 (fun k => sumL (puI m n (I (b + 2 + x)) k) i) := by
        rw [lay_comm hne, lay_lay, lay_ne hne, lay_at]
        congr 1
        rw [igF, if_neg h0]
        exact lay_cong (fun k hk => ig_cong (fun j hj => by simp [cp0, hj]) n (by omega) k hk)
      rw [eim]
      refine ru_go hV 2 [] rfl rfl trivial ?_
      refine loop0 (P := fun j => V 45 [(0, .ref b), (1, .int (nI x)), (2, .ref im), (3, .ref r), (4, .ref (b + 2 + x)), (5, .int (nI i)), (6, .int (nI j))] [] I (lay (lay L im 32 (igF m n (I (b + 2 + x)) (L im) (i + 1))) r 32 (fun k => if k < j then sumL (puI m n (I (b + 2 + x)) k) (i + 1) else sumL (puI m n (I (b + 2 + x)) k) i))) (2 ^ n) (fun h => by simp only [Nat.not_lt_zero, if_false] at h; exact h) (fun j hj ih2 => ?_) ?_
      · have hj32 : j < 32 := by omega
        have pj := pc5_le j
        have pi := pc5_le i
        have step : ∀ lv Lx, lv = [(0, .ref b), (1, .int (nI x)), (2, .ref im), (3, .ref r), (4, .ref (b + 2 + x)), (5, .int (nI i)), (6, .int (nI j))] → Lx = (lay (lay L im 32 (igF m n (I (b + 2 + x)) (L im) (i + 1))) r 32 (fun k => if k < j + 1 then sumL (puI m n (I (b + 2 + x)) k) (i + 1) else sumL (puI m n (I (b + 2 + x)) k) i)) → V 85 lv [] I Lx := fun lv Lx e1 e2 => by
          subst e1; subst e2
          refine ru_go hV 2 [] rfl rfl trivial ?_
          rw [nI_1]
          exact ih2
        refine ru_go hV 2 [] rfl rfl trivial ?_
        refine ru_V hV [.int (nI j)] sVX5_31 (hbl _) k0 rfl rfl rfl rfl (Nat.le_of_ble_eq_true rfl) ?_
        refine ru_go hV 2 [(0, 0)] rfl rfl ⟨trivial, nI_nge hj hB2⟩ ?_
        refine ru_S hV [] sSX5_9 (qJ6_bitCount l hj32 I _) rfl rfl rfl (Nat.le_of_ble_eq_true rfl) ?_
        refine ru_go hV 1 [] rfl rfl trivial ?_
        refine ru_S hV [.int _] sSX5_9 (qJ6_bitCount l hi32 I _) rfl rfl rfl (Nat.le_of_ble_eq_true rfl) ?_
        by_cases hg : pc5 j = pc5 i
        · refine ru_go hV 15 [(0, 0), (j, 32), (i, 32), (j, 32), (j, 32)] rfl rfl ⟨⟨⟨⟨⟨trivial, (fun e => e (by rw [hg]))⟩, (by first | exact rfl | assumption | exact ⟨rfl, rfl⟩ | exact ⟨rfl, rfl, by omega⟩ | exact ⟨by assumption, rfl, by omega⟩ | exact ⟨⟨_, rfl, rfl⟩, by decide, by decide, rfl, by omega⟩ | omega | decide)⟩, (by first | exact rfl | assumption | exact ⟨rfl, rfl⟩ | exact ⟨rfl, rfl, by omega⟩ | exact ⟨by assumption, rfl, by omega⟩ | exact ⟨⟨_, rfl, rfl⟩, by decide, by decide, rfl, by omega⟩ | omega | decide)⟩, (by first | exact rfl | assumption | exact ⟨rfl, rfl⟩ | exact ⟨rfl, rfl, by omega⟩ | exact ⟨by assumption, rfl, by omega⟩ | exact ⟨⟨_, rfl, rfl⟩, by decide, by decide, rfl, by omega⟩ | omega | decide)⟩, (by first | exact rfl | assumption | exact ⟨rfl, rfl⟩ | exact ⟨rfl, rfl, by omega⟩ | exact ⟨by assumption, rfl, by omega⟩ | exact ⟨⟨_, rfl, rfl⟩, by decide, by decide, rfl, by omega⟩ | omega | decide)⟩ ?_
          refine step _ _ rfl ?_
          rw [lay_in hj32, lay_mu hj32, lay_ne hne, lay_in hj32, if_neg (Nat.lt_irrefl j)]
          refine lay_cong (fun k _ => ?_)
          by_cases hkj : k = j
          · subst hkj
            rw [if_pos rfl, if_pos (Nat.lt_succ_self k), sumL, igF, if_neg h0]
            congr 1
            rw [puI, if_pos ⟨hj, hg⟩, ig_gw hn n k hj (by rw [pcl_all n hn i hi, hg])]
          · have : k < j + 1 ↔ k < j := by omega
            simp only [hkj, if_false, this]
        · refine ru_go hV 1 [(1, 0)] rfl rfl ⟨trivial, (fun e => hg ((nI_eq (by omega) (by omega)).mp e))⟩ ?_
          refine step _ _ rfl (lay_cong (fun k _ => ?_))
          by_cases hkj : k = j
          · subst hkj
            rw [if_neg (Nat.lt_irrefl k), if_pos (Nat.lt_succ_self k), sumL, puI, if_neg (fun z => hg z.2), Int64.add_zero]
          · have : k < j + 1 ↔ k < j := by omega
            simp only [this]
      · refine ru_go hV 2 [] rfl rfl trivial ?_
        refine ru_V hV [.int (nI (2^n))] sVX5_31 (hbl _) k0 rfl rfl rfl rfl (Nat.le_of_ble_eq_true rfl) ?_
        refine ru_go hV 1 [(1, 0)] rfl rfl ⟨trivial, nI_le (Nat.le_refl _) hB2⟩ ?_
        refine ru_sub hV [0, 1, 2, 3, 4, 5] rfl (next _ _ rfl (lay_cong (fun k _ => ?_)))
        by_cases hk : k < 2 ^ n
        · rw [if_pos hk]
        · rw [if_neg hk, sumL, puI, if_neg (fun z => hk z.1), Int64.add_zero]
  · refine ru_go hV 2 [] rfl rfl trivial ?_
    refine ru_V hV [.int (nI (2^n))] sVX5_31 (hbl _) k0 rfl rfl rfl rfl (Nat.le_of_ble_eq_true rfl) ?_
    refine ru_fin hV 2 [(1, 0)] rfl rfl ⟨trivial, nI_le (Nat.le_refl _) hB2⟩ ?_
    exact ⟨rfl, rfl, rfl⟩
end
