section
-- ===== PART A: goes FIRST, ahead of the names: the tables' words, and 'selects' of the private methods out of them =====
/-- a private method of a class that the tables say can be made, by its rows of tables_1 -/
def lw_okq (q : MethodName × Nat) : Prop := (q.1.cls ≠ "java/lang/invoke/MethodHandle" ∧ q.1.cls ≠ "java/lang/invoke/VarHandle") ∧ Cond.instantiable q.1.cls q.2 ∈ tables_1 ∧ Cond.privateMethod q.1 ∈ tables_1 ∧ Cond.instanceMethod q.1 ∈ tables_1
theorem lw_p0 : lw_okq (⟨"Hundredward$Book", "record", "(I)V"⟩, 4) := ⟨⟨by decide +kernel, by decide +kernel⟩, List.mem_of_getElem? (i := 161) (by decide +kernel), List.mem_of_getElem? (i := 174) (by decide +kernel), List.mem_of_getElem? (i := 175) (by decide +kernel)⟩
theorem lw_p1 : lw_okq (⟨"Hundredward$Book", "sumUp", "()V"⟩, 4) := ⟨⟨by decide +kernel, by decide +kernel⟩, List.mem_of_getElem? (i := 161) (by decide +kernel), List.mem_of_getElem? (i := 471) (by decide +kernel), List.mem_of_getElem? (i := 472) (by decide +kernel)⟩
theorem lw_p2 : lw_okq (⟨"java/lang/Throwable", "fillInStackTrace", "(I)Ljava/lang/Throwable;"⟩, 6) := ⟨⟨by decide +kernel, by decide +kernel⟩, List.mem_of_getElem? (i := 568) (by decide +kernel), List.mem_of_getElem? (i := 566) (by decide +kernel), List.mem_of_getElem? (i := 567) (by decide +kernel)⟩
theorem lw_p3 : lw_okq (⟨"Hundredward", "plotOf", "(I)LHundredward$Plot;"⟩, 1) := ⟨⟨by decide +kernel, by decide +kernel⟩, List.mem_of_getElem? (i := 44) (by decide +kernel), List.mem_of_getElem? (i := 619) (by decide +kernel), List.mem_of_getElem? (i := 620) (by decide +kernel)⟩
theorem lw_p4 : lw_okq (⟨"Hundredward$Land", "spreadOn", "(LHundredward$Plot;II)I"⟩, 3) := ⟨⟨by decide +kernel, by decide +kernel⟩, List.mem_of_getElem? (i := 58) (by decide +kernel), List.mem_of_getElem? (i := 929) (by decide +kernel), List.mem_of_getElem? (i := 930) (by decide +kernel)⟩
theorem lw_p5 : lw_okq (⟨"Hundredward", "householdOf", "(I)LHundredward$Household;"⟩, 1) := ⟨⟨by decide +kernel, by decide +kernel⟩, List.mem_of_getElem? (i := 44) (by decide +kernel), List.mem_of_getElem? (i := 958) (by decide +kernel), List.mem_of_getElem? (i := 959) (by decide +kernel)⟩
theorem lw_p6 : lw_okq (⟨"Hundredward", "firmNumbered", "(I)LHundredward$Firm;"⟩, 1) := ⟨⟨by decide +kernel, by decide +kernel⟩, List.mem_of_getElem? (i := 44) (by decide +kernel), List.mem_of_getElem? (i := 1013) (by decide +kernel), List.mem_of_getElem? (i := 1014) (by decide +kernel)⟩
theorem lw_p7 : lw_okq (⟨"Hundredward", "requireAccount", "(I)V"⟩, 1) := ⟨⟨by decide +kernel, by decide +kernel⟩, List.mem_of_getElem? (i := 44) (by decide +kernel), List.mem_of_getElem? (i := 1261) (by decide +kernel), List.mem_of_getElem? (i := 1262) (by decide +kernel)⟩
theorem lw_p8 : lw_okq (⟨"HundredwardModel", "pays", "(III)V"⟩, 19) := ⟨⟨by decide +kernel, by decide +kernel⟩, List.mem_of_getElem? (i := 1337) (by decide +kernel), List.mem_of_getElem? (i := 1376) (by decide +kernel), List.mem_of_getElem? (i := 1377) (by decide +kernel)⟩
theorem lw_p9 : lw_okq (⟨"java/util/ArrayList", "add", "(Ljava/lang/Object;[Ljava/lang/Object;I)V"⟩, 3) := ⟨⟨by decide +kernel, by decide +kernel⟩, List.mem_of_getElem? (i := 1345) (by decide +kernel), List.mem_of_getElem? (i := 1403) (by decide +kernel), List.mem_of_getElem? (i := 1404) (by decide +kernel)⟩
theorem lw_p10 : lw_okq (⟨"java/util/ArrayList", "grow", "()[Ljava/lang/Object;"⟩, 3) := ⟨⟨by decide +kernel, by decide +kernel⟩, List.mem_of_getElem? (i := 1345) (by decide +kernel), List.mem_of_getElem? (i := 1407) (by decide +kernel), List.mem_of_getElem? (i := 1408) (by decide +kernel)⟩
theorem lw_p11 : lw_okq (⟨"java/util/ArrayList", "grow", "(I)[Ljava/lang/Object;"⟩, 3) := ⟨⟨by decide +kernel, by decide +kernel⟩, List.mem_of_getElem? (i := 1345) (by decide +kernel), List.mem_of_getElem? (i := 1411) (by decide +kernel), List.mem_of_getElem? (i := 1412) (by decide +kernel)⟩
theorem lw_p12 : lw_okq (⟨"HundredwardModel", "isAccount", "(I)Z"⟩, 19) := ⟨⟨by decide +kernel, by decide +kernel⟩, List.mem_of_getElem? (i := 1337) (by decide +kernel), List.mem_of_getElem? (i := 1528) (by decide +kernel), List.mem_of_getElem? (i := 1529) (by decide +kernel)⟩
theorem lw_p13 : lw_okq (⟨"HundredwardModel", "has", "(I)I"⟩, 19) := ⟨⟨by decide +kernel, by decide +kernel⟩, List.mem_of_getElem? (i := 1337) (by decide +kernel), List.mem_of_getElem? (i := 1539) (by decide +kernel), List.mem_of_getElem? (i := 1540) (by decide +kernel)⟩
theorem lw_p14 : lw_okq (⟨"HundredwardModel", "isFlooded", "(I)Z"⟩, 19) := ⟨⟨by decide +kernel, by decide +kernel⟩, List.mem_of_getElem? (i := 1337) (by decide +kernel), List.mem_of_getElem? (i := 1642) (by decide +kernel), List.mem_of_getElem? (i := 1643) (by decide +kernel)⟩
theorem lw_p15 : lw_okq (⟨"HundredwardModel", "raises", "(I)I"⟩, 19) := ⟨⟨by decide +kernel, by decide +kernel⟩, List.mem_of_getElem? (i := 1337) (by decide +kernel), List.mem_of_getElem? (i := 1650) (by decide +kernel), List.mem_of_getElem? (i := 1651) (by decide +kernel)⟩
def lw_privs_1 : List (MethodName × Nat) := [(⟨"Hundredward$Book", "record", "(I)V"⟩, 4), (⟨"Hundredward$Book", "sumUp", "()V"⟩, 4), (⟨"java/lang/Throwable", "fillInStackTrace", "(I)Ljava/lang/Throwable;"⟩, 6), (⟨"Hundredward", "plotOf", "(I)LHundredward$Plot;"⟩, 1), (⟨"Hundredward$Land", "spreadOn", "(LHundredward$Plot;II)I"⟩, 3), (⟨"Hundredward", "householdOf", "(I)LHundredward$Household;"⟩, 1), (⟨"Hundredward", "firmNumbered", "(I)LHundredward$Firm;"⟩, 1), (⟨"Hundredward", "requireAccount", "(I)V"⟩, 1), (⟨"HundredwardModel", "pays", "(III)V"⟩, 19), (⟨"java/util/ArrayList", "add", "(Ljava/lang/Object;[Ljava/lang/Object;I)V"⟩, 3), (⟨"java/util/ArrayList", "grow", "()[Ljava/lang/Object;"⟩, 3), (⟨"java/util/ArrayList", "grow", "(I)[Ljava/lang/Object;"⟩, 3), (⟨"HundredwardModel", "isAccount", "(I)Z"⟩, 19), (⟨"HundredwardModel", "has", "(I)I"⟩, 19), (⟨"HundredwardModel", "isFlooded", "(I)Z"⟩, 19), (⟨"HundredwardModel", "raises", "(I)I"⟩, 19)]
theorem lw_r1 : ∀ q ∈ lw_privs_1, lw_okq q := List.forall_mem_cons.mpr ⟨lw_p0, List.forall_mem_cons.mpr ⟨lw_p1, List.forall_mem_cons.mpr ⟨lw_p2, List.forall_mem_cons.mpr ⟨lw_p3, List.forall_mem_cons.mpr ⟨lw_p4, List.forall_mem_cons.mpr ⟨lw_p5, List.forall_mem_cons.mpr ⟨lw_p6, List.forall_mem_cons.mpr ⟨lw_p7, List.forall_mem_cons.mpr ⟨lw_p8, List.forall_mem_cons.mpr ⟨lw_p9, List.forall_mem_cons.mpr ⟨lw_p10, List.forall_mem_cons.mpr ⟨lw_p11, List.forall_mem_cons.mpr ⟨lw_p12, List.forall_mem_cons.mpr ⟨lw_p13, List.forall_mem_cons.mpr ⟨lw_p14, List.forall_mem_cons.mpr ⟨lw_p15, fun _ h => absurd h List.not_mem_nil⟩⟩⟩⟩⟩⟩⟩⟩⟩⟩⟩⟩⟩⟩⟩⟩
theorem lw_p16 : lw_okq (⟨"HundredwardModel", "roads", "(II)I"⟩, 19) := ⟨⟨by decide +kernel, by decide +kernel⟩, List.mem_of_getElem? (i := 1337) (by decide +kernel), List.mem_of_getElem? (i := 1654) (by decide +kernel), List.mem_of_getElem? (i := 1655) (by decide +kernel)⟩
theorem lw_p17 : lw_okq (⟨"HundredwardModel", "wayOf", "(II[I)Ljava/util/ArrayList;"⟩, 19) := ⟨⟨by decide +kernel, by decide +kernel⟩, List.mem_of_getElem? (i := 1337) (by decide +kernel), List.mem_of_getElem? (i := 1661) (by decide +kernel), List.mem_of_getElem? (i := 1662) (by decide +kernel)⟩
theorem lw_p18 : lw_okq (⟨"HundredwardModel", "costs", "(II[I)[I"⟩, 19) := ⟨⟨by decide +kernel, by decide +kernel⟩, List.mem_of_getElem? (i := 1337) (by decide +kernel), List.mem_of_getElem? (i := 1671) (by decide +kernel), List.mem_of_getElem? (i := 1672) (by decide +kernel)⟩
theorem lw_p19 : lw_okq (⟨"HundredwardModel", "objections", "(IC)I"⟩, 19) := ⟨⟨by decide +kernel, by decide +kernel⟩, List.mem_of_getElem? (i := 1337) (by decide +kernel), List.mem_of_getElem? (i := 1705) (by decide +kernel), List.mem_of_getElem? (i := 1706) (by decide +kernel)⟩
theorem lw_p20 : lw_okq (⟨"HundredwardModel", "dweller", "(I)LHundredwardModel$Household;"⟩, 19) := ⟨⟨by decide +kernel, by decide +kernel⟩, List.mem_of_getElem? (i := 1337) (by decide +kernel), List.mem_of_getElem? (i := 1714) (by decide +kernel), List.mem_of_getElem? (i := 1715) (by decide +kernel)⟩
theorem lw_p21 : lw_okq (⟨"HundredwardModel", "firmOn", "(I)LHundredwardModel$Firm;"⟩, 19) := ⟨⟨by decide +kernel, by decide +kernel⟩, List.mem_of_getElem? (i := 1337) (by decide +kernel), List.mem_of_getElem? (i := 1718) (by decide +kernel), List.mem_of_getElem? (i := 1719) (by decide +kernel)⟩
theorem lw_p22 : lw_okq (⟨"HundredwardModel", "lawOf", "(C)I"⟩, 19) := ⟨⟨by decide +kernel, by decide +kernel⟩, List.mem_of_getElem? (i := 1337) (by decide +kernel), List.mem_of_getElem? (i := 1731) (by decide +kernel), List.mem_of_getElem? (i := 1732) (by decide +kernel)⟩
theorem lw_p23 : lw_okq (⟨"HundredwardModel", "isForLess", "(LHundredwardModel$Household;C)Z"⟩, 19) := ⟨⟨by decide +kernel, by decide +kernel⟩, List.mem_of_getElem? (i := 1337) (by decide +kernel), List.mem_of_getElem? (i := 1735) (by decide +kernel), List.mem_of_getElem? (i := 1736) (by decide +kernel)⟩
theorem lw_p24 : lw_okq (⟨"HundredwardModel", "cutRents", "()V"⟩, 19) := ⟨⟨by decide +kernel, by decide +kernel⟩, List.mem_of_getElem? (i := 1337) (by decide +kernel), List.mem_of_getElem? (i := 1743) (by decide +kernel), List.mem_of_getElem? (i := 1744) (by decide +kernel)⟩
theorem lw_p25 : lw_okq (⟨"HundredwardModel", "household", "(I)LHundredwardModel$Household;"⟩, 19) := ⟨⟨by decide +kernel, by decide +kernel⟩, List.mem_of_getElem? (i := 1337) (by decide +kernel), List.mem_of_getElem? (i := 1817) (by decide +kernel), List.mem_of_getElem? (i := 1818) (by decide +kernel)⟩
theorem lw_p26 : lw_okq (⟨"HundredwardModel", "goes", "(LHundredwardModel$Household;)I"⟩, 19) := ⟨⟨by decide +kernel, by decide +kernel⟩, List.mem_of_getElem? (i := 1337) (by decide +kernel), List.mem_of_getElem? (i := 1821) (by decide +kernel), List.mem_of_getElem? (i := 1822) (by decide +kernel)⟩
theorem lw_p27 : lw_okq (⟨"HundredwardModel", "losesHome", "(LHundredwardModel$Household;)V"⟩, 19) := ⟨⟨by decide +kernel, by decide +kernel⟩, List.mem_of_getElem? (i := 1337) (by decide +kernel), List.mem_of_getElem? (i := 1825) (by decide +kernel), List.mem_of_getElem? (i := 1826) (by decide +kernel)⟩
theorem lw_p28 : lw_okq (⟨"HundredwardModel", "firm", "(I)LHundredwardModel$Firm;"⟩, 19) := ⟨⟨by decide +kernel, by decide +kernel⟩, List.mem_of_getElem? (i := 1337) (by decide +kernel), List.mem_of_getElem? (i := 1877) (by decide +kernel), List.mem_of_getElem? (i := 1878) (by decide +kernel)⟩
theorem lw_p29 : lw_okq (⟨"HundredwardModel", "workers", "(LHundredwardModel$Firm;)I"⟩, 19) := ⟨⟨by decide +kernel, by decide +kernel⟩, List.mem_of_getElem? (i := 1337) (by decide +kernel), List.mem_of_getElem? (i := 1909) (by decide +kernel), List.mem_of_getElem? (i := 1910) (by decide +kernel)⟩
theorem lw_p30 : lw_okq (⟨"HundredwardModel", "floods", "()V"⟩, 19) := ⟨⟨by decide +kernel, by decide +kernel⟩, List.mem_of_getElem? (i := 1337) (by decide +kernel), List.mem_of_getElem? (i := 1921) (by decide +kernel), List.mem_of_getElem? (i := 1922) (by decide +kernel)⟩
theorem lw_p31 : lw_okq (⟨"HundredwardModel", "names", "(II)V"⟩, 19) := ⟨⟨by decide +kernel, by decide +kernel⟩, List.mem_of_getElem? (i := 1337) (by decide +kernel), List.mem_of_getElem? (i := 1925) (by decide +kernel), List.mem_of_getElem? (i := 1926) (by decide +kernel)⟩
def lw_privs_2 : List (MethodName × Nat) := [(⟨"HundredwardModel", "roads", "(II)I"⟩, 19), (⟨"HundredwardModel", "wayOf", "(II[I)Ljava/util/ArrayList;"⟩, 19), (⟨"HundredwardModel", "costs", "(II[I)[I"⟩, 19), (⟨"HundredwardModel", "objections", "(IC)I"⟩, 19), (⟨"HundredwardModel", "dweller", "(I)LHundredwardModel$Household;"⟩, 19), (⟨"HundredwardModel", "firmOn", "(I)LHundredwardModel$Firm;"⟩, 19), (⟨"HundredwardModel", "lawOf", "(C)I"⟩, 19), (⟨"HundredwardModel", "isForLess", "(LHundredwardModel$Household;C)Z"⟩, 19), (⟨"HundredwardModel", "cutRents", "()V"⟩, 19), (⟨"HundredwardModel", "household", "(I)LHundredwardModel$Household;"⟩, 19), (⟨"HundredwardModel", "goes", "(LHundredwardModel$Household;)I"⟩, 19), (⟨"HundredwardModel", "losesHome", "(LHundredwardModel$Household;)V"⟩, 19), (⟨"HundredwardModel", "firm", "(I)LHundredwardModel$Firm;"⟩, 19), (⟨"HundredwardModel", "workers", "(LHundredwardModel$Firm;)I"⟩, 19), (⟨"HundredwardModel", "floods", "()V"⟩, 19), (⟨"HundredwardModel", "names", "(II)V"⟩, 19)]
theorem lw_r2 : ∀ q ∈ lw_privs_2, lw_okq q := List.forall_mem_cons.mpr ⟨lw_p16, List.forall_mem_cons.mpr ⟨lw_p17, List.forall_mem_cons.mpr ⟨lw_p18, List.forall_mem_cons.mpr ⟨lw_p19, List.forall_mem_cons.mpr ⟨lw_p20, List.forall_mem_cons.mpr ⟨lw_p21, List.forall_mem_cons.mpr ⟨lw_p22, List.forall_mem_cons.mpr ⟨lw_p23, List.forall_mem_cons.mpr ⟨lw_p24, List.forall_mem_cons.mpr ⟨lw_p25, List.forall_mem_cons.mpr ⟨lw_p26, List.forall_mem_cons.mpr ⟨lw_p27, List.forall_mem_cons.mpr ⟨lw_p28, List.forall_mem_cons.mpr ⟨lw_p29, List.forall_mem_cons.mpr ⟨lw_p30, List.forall_mem_cons.mpr ⟨lw_p31, fun _ h => absurd h List.not_mem_nil⟩⟩⟩⟩⟩⟩⟩⟩⟩⟩⟩⟩⟩⟩⟩⟩
theorem lw_p32 : lw_okq (⟨"HundredwardModel", "houses", "()V"⟩, 19) := ⟨⟨by decide +kernel, by decide +kernel⟩, List.mem_of_getElem? (i := 1337) (by decide +kernel), List.mem_of_getElem? (i := 1929) (by decide +kernel), List.mem_of_getElem? (i := 1930) (by decide +kernel)⟩
theorem lw_p33 : lw_okq (⟨"HundredwardModel", "hires", "()V"⟩, 19) := ⟨⟨by decide +kernel, by decide +kernel⟩, List.mem_of_getElem? (i := 1337) (by decide +kernel), List.mem_of_getElem? (i := 1933) (by decide +kernel), List.mem_of_getElem? (i := 1934) (by decide +kernel)⟩
theorem lw_p34 : lw_okq (⟨"HundredwardModel", "jobs", "(LHundredwardModel$Firm;)I"⟩, 19) := ⟨⟨by decide +kernel, by decide +kernel⟩, List.mem_of_getElem? (i := 1337) (by decide +kernel), List.mem_of_getElem? (i := 1937) (by decide +kernel), List.mem_of_getElem? (i := 1938) (by decide +kernel)⟩
theorem lw_p35 : lw_okq (⟨"HundredwardModel", "hasWay", "(II)Z"⟩, 19) := ⟨⟨by decide +kernel, by decide +kernel⟩, List.mem_of_getElem? (i := 1337) (by decide +kernel), List.mem_of_getElem? (i := 1941) (by decide +kernel), List.mem_of_getElem? (i := 1942) (by decide +kernel)⟩
theorem lw_p36 : lw_okq (⟨"HundredwardModel", "routes", "()V"⟩, 19) := ⟨⟨by decide +kernel, by decide +kernel⟩, List.mem_of_getElem? (i := 1337) (by decide +kernel), List.mem_of_getElem? (i := 1945) (by decide +kernel), List.mem_of_getElem? (i := 1946) (by decide +kernel)⟩
theorem lw_p37 : lw_okq (⟨"HundredwardModel", "loadsBut", "(LHundredwardModel$Household;)[I"⟩, 19) := ⟨⟨by decide +kernel, by decide +kernel⟩, List.mem_of_getElem? (i := 1337) (by decide +kernel), List.mem_of_getElem? (i := 1949) (by decide +kernel), List.mem_of_getElem? (i := 1950) (by decide +kernel)⟩
theorem lw_p38 : lw_okq (⟨"HundredwardModel", "waters", "()V"⟩, 19) := ⟨⟨by decide +kernel, by decide +kernel⟩, List.mem_of_getElem? (i := 1337) (by decide +kernel), List.mem_of_getElem? (i := 1962) (by decide +kernel), List.mem_of_getElem? (i := 1963) (by decide +kernel)⟩
theorem lw_p39 : lw_okq (⟨"HundredwardModel", "works", "()V"⟩, 19) := ⟨⟨by decide +kernel, by decide +kernel⟩, List.mem_of_getElem? (i := 1337) (by decide +kernel), List.mem_of_getElem? (i := 1967) (by decide +kernel), List.mem_of_getElem? (i := 1968) (by decide +kernel)⟩
theorem lw_p40 : lw_okq (⟨"HundredwardModel", "paysWage", "(LHundredwardModel$Household;LHundredwardModel$Firm;)V"⟩, 19) := ⟨⟨by decide +kernel, by decide +kernel⟩, List.mem_of_getElem? (i := 1337) (by decide +kernel), List.mem_of_getElem? (i := 1971) (by decide +kernel), List.mem_of_getElem? (i := 1972) (by decide +kernel)⟩
theorem lw_p41 : lw_okq (⟨"HundredwardModel", "freights", "()V"⟩, 19) := ⟨⟨by decide +kernel, by decide +kernel⟩, List.mem_of_getElem? (i := 1337) (by decide +kernel), List.mem_of_getElem? (i := 1975) (by decide +kernel), List.mem_of_getElem? (i := 1976) (by decide +kernel)⟩
theorem lw_p42 : lw_okq (⟨"HundredwardModel", "cheapest", "(ZI)LHundredwardModel$Firm;"⟩, 19) := ⟨⟨by decide +kernel, by decide +kernel⟩, List.mem_of_getElem? (i := 1337) (by decide +kernel), List.mem_of_getElem? (i := 1979) (by decide +kernel), List.mem_of_getElem? (i := 1980) (by decide +kernel)⟩
theorem lw_p43 : lw_okq (⟨"HundredwardModel", "shops", "()V"⟩, 19) := ⟨⟨by decide +kernel, by decide +kernel⟩, List.mem_of_getElem? (i := 1337) (by decide +kernel), List.mem_of_getElem? (i := 1983) (by decide +kernel), List.mem_of_getElem? (i := 1984) (by decide +kernel)⟩
theorem lw_p44 : lw_okq (⟨"HundredwardModel", "paysRents", "()V"⟩, 19) := ⟨⟨by decide +kernel, by decide +kernel⟩, List.mem_of_getElem? (i := 1337) (by decide +kernel), List.mem_of_getElem? (i := 1987) (by decide +kernel), List.mem_of_getElem? (i := 1988) (by decide +kernel)⟩
theorem lw_p45 : lw_okq (⟨"HundredwardModel", "interest", "()V"⟩, 19) := ⟨⟨by decide +kernel, by decide +kernel⟩, List.mem_of_getElem? (i := 1337) (by decide +kernel), List.mem_of_getElem? (i := 1991) (by decide +kernel), List.mem_of_getElem? (i := 1992) (by decide +kernel)⟩
theorem lw_p46 : lw_okq (⟨"HundredwardModel", "fails", "(LHundredwardModel$Firm;)V"⟩, 19) := ⟨⟨by decide +kernel, by decide +kernel⟩, List.mem_of_getElem? (i := 1337) (by decide +kernel), List.mem_of_getElem? (i := 1995) (by decide +kernel), List.mem_of_getElem? (i := 1996) (by decide +kernel)⟩
theorem lw_p47 : lw_okq (⟨"HundredwardModel", "townFails", "()V"⟩, 19) := ⟨⟨by decide +kernel, by decide +kernel⟩, List.mem_of_getElem? (i := 1337) (by decide +kernel), List.mem_of_getElem? (i := 1999) (by decide +kernel), List.mem_of_getElem? (i := 2000) (by decide +kernel)⟩
def lw_privs_3 : List (MethodName × Nat) := [(⟨"HundredwardModel", "houses", "()V"⟩, 19), (⟨"HundredwardModel", "hires", "()V"⟩, 19), (⟨"HundredwardModel", "jobs", "(LHundredwardModel$Firm;)I"⟩, 19), (⟨"HundredwardModel", "hasWay", "(II)Z"⟩, 19), (⟨"HundredwardModel", "routes", "()V"⟩, 19), (⟨"HundredwardModel", "loadsBut", "(LHundredwardModel$Household;)[I"⟩, 19), (⟨"HundredwardModel", "waters", "()V"⟩, 19), (⟨"HundredwardModel", "works", "()V"⟩, 19), (⟨"HundredwardModel", "paysWage", "(LHundredwardModel$Household;LHundredwardModel$Firm;)V"⟩, 19), (⟨"HundredwardModel", "freights", "()V"⟩, 19), (⟨"HundredwardModel", "cheapest", "(ZI)LHundredwardModel$Firm;"⟩, 19), (⟨"HundredwardModel", "shops", "()V"⟩, 19), (⟨"HundredwardModel", "paysRents", "()V"⟩, 19), (⟨"HundredwardModel", "interest", "()V"⟩, 19), (⟨"HundredwardModel", "fails", "(LHundredwardModel$Firm;)V"⟩, 19), (⟨"HundredwardModel", "townFails", "()V"⟩, 19)]
theorem lw_r3 : ∀ q ∈ lw_privs_3, lw_okq q := List.forall_mem_cons.mpr ⟨lw_p32, List.forall_mem_cons.mpr ⟨lw_p33, List.forall_mem_cons.mpr ⟨lw_p34, List.forall_mem_cons.mpr ⟨lw_p35, List.forall_mem_cons.mpr ⟨lw_p36, List.forall_mem_cons.mpr ⟨lw_p37, List.forall_mem_cons.mpr ⟨lw_p38, List.forall_mem_cons.mpr ⟨lw_p39, List.forall_mem_cons.mpr ⟨lw_p40, List.forall_mem_cons.mpr ⟨lw_p41, List.forall_mem_cons.mpr ⟨lw_p42, List.forall_mem_cons.mpr ⟨lw_p43, List.forall_mem_cons.mpr ⟨lw_p44, List.forall_mem_cons.mpr ⟨lw_p45, List.forall_mem_cons.mpr ⟨lw_p46, List.forall_mem_cons.mpr ⟨lw_p47, fun _ h => absurd h List.not_mem_nil⟩⟩⟩⟩⟩⟩⟩⟩⟩⟩⟩⟩⟩⟩⟩⟩
theorem lw_p48 : lw_okq (⟨"HundredwardModel", "repays", "()V"⟩, 19) := ⟨⟨by decide +kernel, by decide +kernel⟩, List.mem_of_getElem? (i := 1337) (by decide +kernel), List.mem_of_getElem? (i := 2003) (by decide +kernel), List.mem_of_getElem? (i := 2004) (by decide +kernel)⟩
theorem lw_p49 : lw_okq (⟨"HundredwardModel", "tells", "()V"⟩, 19) := ⟨⟨by decide +kernel, by decide +kernel⟩, List.mem_of_getElem? (i := 1337) (by decide +kernel), List.mem_of_getElem? (i := 2007) (by decide +kernel), List.mem_of_getElem? (i := 2008) (by decide +kernel)⟩
theorem lw_p50 : lw_okq (⟨"HundredwardModel", "there", "()I"⟩, 19) := ⟨⟨by decide +kernel, by decide +kernel⟩, List.mem_of_getElem? (i := 1337) (by decide +kernel), List.mem_of_getElem? (i := 2023) (by decide +kernel), List.mem_of_getElem? (i := 2024) (by decide +kernel)⟩
def lw_privs_4 : List (MethodName × Nat) := [(⟨"HundredwardModel", "repays", "()V"⟩, 19), (⟨"HundredwardModel", "tells", "()V"⟩, 19), (⟨"HundredwardModel", "there", "()I"⟩, 19)]
theorem lw_r4 : ∀ q ∈ lw_privs_4, lw_okq q := List.forall_mem_cons.mpr ⟨lw_p48, List.forall_mem_cons.mpr ⟨lw_p49, List.forall_mem_cons.mpr ⟨lw_p50, fun _ h => absurd h List.not_mem_nil⟩⟩⟩
def lw_privs : List (MethodName × Nat) := lw_privs_1 ++ (lw_privs_2 ++ (lw_privs_3 ++ (lw_privs_4)))
def lw_tbl : List Cond := k2_sels lw_privs ++ tables_1
theorem lw_privs_ok : ∀ q ∈ lw_privs, lw_okq q := by
  show ∀ q ∈ lw_privs_1 ++ (lw_privs_2 ++ (lw_privs_3 ++ (lw_privs_4))), lw_okq q
  exact List.forall_mem_append.mpr ⟨lw_r1, List.forall_mem_append.mpr ⟨lw_r2, List.forall_mem_append.mpr ⟨lw_r3, lw_r4⟩⟩⟩
/-- the streams that the claim lets the run draw from -/
abbrev lw_cs : List Choice := [Jvm.Choice.named "NaN.bits"]
theorem lw_bits : nanBits ∈ lw_cs := by first | decide | exact List.mem_cons_self | simp [lw_cs, nanBits]
-- ===== end of PART A; then your names; then what follows =====
/-! ===== BEGIN words of one list among another's, by their places ===== -/
theorem goodIn_r {big : List Cond} (ws : List Cond) (ps : List Nat) (hp : ws = ps.filterMap (fun i => big[i]?)) (h : ws.all goodWord = true) : GoodIn big ws := by
  intro w hw
  have h1 := List.all_eq_true.mp h w hw
  rw [hp] at hw
  obtain ⟨i, -, hi⟩ := List.mem_filterMap.mp hw
  have hm : w ∈ big := by first | exact List.mem_of_getElem? hi | exact List.getElem?_mem hi
  exact ⟨hm, good_of_word h1⟩
theorem goodIn_app {big a b : List Cond} (ha : GoodIn big a) (hb : GoodIn big b) : GoodIn big (a ++ b) := fun w h => (List.mem_append.mp h).elim (ha w) (hb w)
theorem goodIn_ca {big a b : List Cond} {c : Cond} (ha : GoodIn big (c :: a)) (hb : GoodIn big b) : GoodIn big (c :: (a ++ b)) := fun w h => (List.mem_cons.mp h).elim (fun e => ha w (List.mem_cons.mpr (Or.inl e))) (fun h => (List.mem_append.mp h).elim (fun h => ha w (List.mem_cons.mpr (Or.inr h))) (hb w))
theorem goodIn_sub {big ws : List Cond} (hm : ∀ w ∈ ws, w ∈ big) (h : ws.all goodWord = true) : GoodIn big ws := fun w hw => ⟨hm w hw, good_of_word (List.all_eq_true.mp h w hw)⟩
/-! ===== END ===== -/

/-! ===== BEGIN exceptions that leave a method, and their catching by the caller (launches without stack traces) ===== -/
section VXA
/-! The laws vx_back, vx_callV, vx_callS, vx_callSW, vx_throw0, vx_throwS follow proofs of the library, with one case more: JvmDerived/Free/Laws.lean (Back.of_free), Shelf42/LK1.lean (callV, callS), Shelf/KitTraced.lean (throwNew0V, throwNewS). -/
/-- where a method has thrown q: the class by its name, the cell, what was written, the world -/
def vx_T (XC : String → State → State → Prop) (st : State) (q : Addr) (t : State) (mc ms : Nat) (free : Addr → Prop) : Prop :=
  ∃ (E : String) (ce : Cell) (L : List Loc), XC E st t ∧ t.heap[q]? = some ce ∧ ce.vm = .none ∧ st.vm.findClass E = some ce.cls ∧ st.WarmedH t.vm ∧ st.sameButNew ({ t with vm := st.vm } : State) L mc ms ∧ ∀ z ∈ L, free z.base
def vx_Q (Qc : Array Value → State → Outcome → State → Prop) (XC : String → State → State → Prop) (mc ms : Nat) (free : Addr → Prop) : Array Value → State → Outcome → State → Prop := fun a st o t =>
  (Qc a st o t ∧ ∃ L, FrameEnd st o t L mc ms ∧ ∀ q ∈ L, free q.base) ∨ ∃ q, o = .threw q ∧ vx_T XC st q t mc ms free
/-- a callee that returns or throws -/
def vx_Met (l : Launch) (y : MethodName) (ws : List Cond) (rm : Room) (Pc : Array Value → State → Prop) (Qc : Array Value → State → Outcome → State → Prop) (XC : String → State → State → Prop) (mc ms : Nat) (free : Addr → Prop) : Prop :=
  MetFree l y (headSpec ws rm) Pc (fun _ _ _ _ _ => True) (vx_Q Qc XC mc ms free)
def vx_Post (XC : String → State → State → Prop) (mc ms : Nat) (free : Addr → Prop) : Pt → Array Value → Addr → Pt → Prop := fun A a q B =>
  ∃ (g : JFrame) (mk : MethodId) (t : State) (L : List Loc) (E : String) (ce : Cell), B.U.heap = t.heap ∧ B.U.vm = t.vm ∧ XC E (A.U.calling g mk a) t ∧ t.heap[q]? = some ce ∧ ce.vm = .none ∧ A.U.vm.findClass E = some ce.cls ∧ B.locs = A.locs ++ L ∧ (∀ z ∈ L, free z.base) ∧ B.cells = A.cells + mc ∧ B.slots = A.slots + ms
def vx_Back (l : Launch) (R : Room) (p : Program) (e : Env) (below : List Frame) (s : State) (sargs : Array Value) (y : MethodName) (len W9 : Nat)
    (Pre : Pt → Array Value → Prop) (Post : Pt → Array Value → Option Value → Pt → Prop) (PostX : Pt → Array Value → Addr → Pt → Prop) : Prop :=
  ∀ (m : MethodId) (meth : Method) (c : Code) (A : Pt) (g : JFrame) (ig : Instr) (mk : MethodId) (a : Array Value),
    Stand p l e R s m sargs below meth c A.U A.locs A.cells A.slots → g.method = m → g.locals.size = c.maxLocals → decode c.code g.pc = .ok (ig, len) →
    2 * g.monitorRoom + (g.stack.map fun v => v.category).sum ≤ W9 → A.U.methodNamed? y = some mk → Pre A a →
    (∃ (v : Option Value) (B : Pt), Stand p l e R s m sargs below meth c B.U B.locs B.cells B.slots ∧ Post A a v B ∧
      Steps p.tables e below (doInvoke e (A.U.setTop g) [] mk a).1 (B.U.setTop { g with pc := g.pc + len, stack := v.toList ++ g.stack })) ∨
    (∃ (q : Addr) (B : Pt), Stand p l e R s m sargs below meth c B.U B.locs B.cells B.slots ∧ PostX A a q B ∧
      Steps p.tables e below (doInvoke e (A.U.setTop g) [] mk a).1 ((B.U.setTop g).pushFrame (.throwing q)))
section Payer
variable {l : Launch} {R : Room} {p : Program} {e : Env} {below : List Frame} {s : State} {sargs : Array Value} {y : MethodName} {len W9 : Nat}
theorem vx_back {ws : List Cond} {rm : Room} {Pc : Array Value → State → Prop} {Qc : Array Value → State → Outcome → State → Prop} {XC : String → State → State → Prop} {mc ms : Nat} {free : Addr → Prop} {bytes : ByteArray} {maxL : Nat} {ret : Option FieldType}
    (hM : vx_Met l y ws rm Pc Qc XC mc ms free) (hblind : FrameBlind Pc) (hrc : rm.cells = mc) (hrs : rm.slots = ms)
    (hframes : rm.frames + 1 ≤ R.frames) (hlocals : W9 + (maxL + 11) + rm.locals ≤ R.locals)
    (hws : ∀ w ∈ ws, ∀ a' U, s.WarmedH U.vm → w.before a' U = true) (hcode : Cond.code y bytes maxL ret ∈ ws) (hinit : ∀ a' U, s.WarmedH U.vm → (Cond.initialized y.cls).before a' U = true) :
    vx_Back l R p e below s sargs y len W9 (PreOf R mc ms Pc) (PostOf Qc mc ms free) (vx_Post XC mc ms free) := by
  intro m meth c A g ig mk a X hg hsize hdg hW hn hp
  have h1 : (headSpec ws rm).pre.before a A.U = true := atoms_intro fun w hw => hws w hw _ _ X.warmed
  have h2 : (Cond.code y bytes maxL ret).before a A.U = true := hws _ hcode _ _ X.warmed
  have h3 : (Cond.initialized y.cls).before a A.U = true := hinit _ _ X.warmed
  have h4 : A.cells + (headSpec ws rm).room.cells ≤ R.cells := by rw [show (headSpec ws rm).room.cells = mc from hrc]; exact hp.1
  have h5 : A.slots + (headSpec ws rm).room.slots ≤ R.slots := by rw [show (headSpec ws rm).room.slots = ms from hrs]; exact hp.2.1
  have hPc : Pc a (A.U.calling g mk a) := hblind _ _ _ _ hp.2.2
  obtain ⟨U, Ls, c0, s0⟩ := A
  dsimp only [Pt.U, Pt.locs, Pt.cells, Pt.slots] at h1 h2 h3 h4 h5 X hn hPc ⊢
  obtain ⟨methY, cY, hmY, hcY, -, hlY, -, -, -, -⟩ := Cond.code_spec hn h2
  obtain ⟨kY, hkY, -⟩ := className_of_methodNamed hn
  have hinitY : kY.init = .initialized := Cond.initialized_spec (findClass_of_methodNamed hn) hkY h3
  have h : At U g.method c below := by rw [hg]; exact X.here
  have hlocals9 : W9 + (maxL + 11) + (headSpec ws rm).room.locals ≤ R.locals := hlocals
  have happ : (headSpec ws rm).appliesLoose y e.platform (U.calling g mk a) = true :=
    Spec.appliesLoose_calling (g := g) h hdg hn hkY hinitY
      (X.room_calling (g := g) (R' := (headSpec ws rm).room) hsize hmY hcY hframes (by rw [hlY]; omega) h4 h5) h1
  obtain ⟨mid, hmid⟩ := h.above
  have hfr : (U.setTop g).frames = (.java g :: mid) ++ below := by rw [State.frames_setTop' g h.top, hmid]; rfl
  obtain ⟨o, s₂, hsteps, -, hend, hq⟩ := Steps.callFree hM p X.admits X.cas X.clock (acts := []) hfr happ hPc trivial
  have hq' : vx_Q Qc XC mc ms free a (U.calling g mk a) o s₂ := hq
  rw [State.frames_setTop' g h.top] at hend
  obtain ⟨g₀, hg0⟩ := Option.isSome_iff_exists.mp h.top
  obtain ⟨r, hr⟩ := State.topJava?_eq_some.mp hg0
  have hr' : (({ U with heap := s₂.heap, slotsUsed := s₂.slotsUsed } : State).setVm s₂.vm).frames = .java g₀ :: r := hr
  rcases hq' with ⟨hqc, L, hfe, hL⟩ | ⟨q, rfl, E, ce, L, hx, hce, hcv, hcl, hW₂, hsm, hL⟩
  · obtain ⟨⟨v, rfl⟩, hW₂, e2, q2, q3, q4, q5, q6⟩ := id hfe
    have e3 : s₂ = ({ (U.calling g mk a).setFrames s₂.frames with heap := s₂.heap, slotsUsed := s₂.slotsUsed } : State).setVm s₂.vm := by
      have : s₂ = ({ s₂ with vm := (U.calling g mk a).vm } : State).setVm s₂.vm := rfl
      rw [e2] at this
      exact this
    obtain ⟨c₂, i₂, len₂, hc₂, hd₂, hf₂⟩ := hend
    have hW' : U.WarmedH s₂.vm := hW₂
    have hcc : c₂ = c := by
      have h1 : s₂.code? g.method = U.code? g.method := by
        rw [State.code?_eq, State.code?_eq, hW'.alike.method?]
      exact Option.some.inj (hc₂.symm.trans (h1.trans h.code))
    subst hcc
    have hlen : len₂ = len := by rw [hdg] at hd₂; cases hd₂; rfl
    subst hlen
    have hs₂ : s₂ = (({ U with heap := s₂.heap, slotsUsed := s₂.slotsUsed } : State).setVm s₂.vm).setTop { g with pc := g.pc + len₂, stack := v.toList ++ g.stack } := by
      refine e3.trans ?_
      rw [hf₂, State.calling_eq h.top, State.setFrames_setFrames, State.setTop_of_frames _ hr', hr]
      rfl
    have hsame : U.sameButNew ({ U with heap := s₂.heap, slotsUsed := s₂.slotsUsed } : State) L mc ms := by
      refine ⟨?_, q2, q3, q4, q5, q6⟩
      obtain ⟨t, ht, -⟩ := State.frames_cons hr
      show ({ U with heap := s₂.heap, slotsUsed := s₂.slotsUsed } : State) = { U.setFrames U.frames with heap := s₂.heap, slotsUsed := s₂.slotsUsed }
      rw [State.setFrames_self ht]
    subst hg
    refine Or.inl ⟨v, ⟨(({ U with heap := s₂.heap, slotsUsed := s₂.slotsUsed } : State).setVm s₂.vm), Ls ++ L, c0 + mc, s0 + ms⟩,
      ⟨X.admits, X.cas, X.clock, X.frames, X.room, X.hears, X.method, X.code, (X.here.setHeapUsed s₂.heap s₂.slotsUsed).setVm hW'.alike, X.tail, State.WarmedH.trans X.warmed hW', X.limits, X.bytes, X.same.trans (hsame.setVm s.vm)⟩,
      ⟨g, mk, s₂, L, rfl, rfl, hqc, rfl, hL, rfl, rfl⟩, ?_⟩
    show Steps p.tables e below _ ((({ U with heap := s₂.heap, slotsUsed := s₂.slotsUsed } : State).setVm s₂.vm).setTop { g with pc := g.pc + len₂, stack := v.toList ++ g.stack })
    rw [← hs₂]
    exact hsteps
  · obtain ⟨e2, q2, q3, q4, q5, q6⟩ := id hsm
    have e3 : s₂ = ({ (U.calling g mk a).setFrames s₂.frames with heap := s₂.heap, slotsUsed := s₂.slotsUsed } : State).setVm s₂.vm := by
      have : s₂ = ({ s₂ with vm := (U.calling g mk a).vm } : State).setVm s₂.vm := rfl
      rw [e2] at this
      exact this
    have hf₂ : s₂.frames = .throwing q :: .java g :: U.frames.tail := hend
    have hW' : U.WarmedH s₂.vm := hW₂
    have hs₂ : s₂ = ((({ U with heap := s₂.heap, slotsUsed := s₂.slotsUsed } : State).setVm s₂.vm).setTop g).pushFrame (.throwing q) := by
      refine e3.trans ?_
      rw [hf₂, State.calling_eq h.top, State.setFrames_setFrames, State.pushFrame, State.frames_setTop _ hr', State.setTop_of_frames _ hr', State.setFrames_setFrames, hr]
      rfl
    have hsame : U.sameButNew ({ U with heap := s₂.heap, slotsUsed := s₂.slotsUsed } : State) L mc ms := by
      refine ⟨?_, q2, q3, q4, q5, q6⟩
      obtain ⟨t, ht, -⟩ := State.frames_cons hr
      show ({ U with heap := s₂.heap, slotsUsed := s₂.slotsUsed } : State) = { U.setFrames U.frames with heap := s₂.heap, slotsUsed := s₂.slotsUsed }
      rw [State.setFrames_self ht]
    subst hg
    refine Or.inr ⟨q, ⟨(({ U with heap := s₂.heap, slotsUsed := s₂.slotsUsed } : State).setVm s₂.vm), Ls ++ L, c0 + mc, s0 + ms⟩,
      ⟨X.admits, X.cas, X.clock, X.frames, X.room, X.hears, X.method, X.code, (X.here.setHeapUsed s₂.heap s₂.slotsUsed).setVm hW'.alike, X.tail, State.WarmedH.trans X.warmed hW', X.limits, X.bytes, X.same.trans (hsame.setVm s.vm)⟩,
      ⟨g, mk, s₂, L, E, ce, rfl, rfl, hx, hce, hcv, hcl, rfl, hL, rfl, rfl⟩, ?_⟩
    show Steps p.tables e below _ (((({ U with heap := s₂.heap, slotsUsed := s₂.slotsUsed } : State).setVm s₂.vm).setTop g).pushFrame (.throwing q))
    rw [← hs₂]
    exact hsteps
end Payer
section Calls
variable {p : Program} {l : Launch} {e : Env} {R : Room} {s : State} {m : MethodId} {args : Array Value} {below : List Frame} {meth : Method} {c : Code} {T : State} {locs : List Loc} {cells slots : Nat}
theorem vx_callV (X : Stand p l e R s m args below meth c T locs cells slots) (hexec : p.tables.exec = Jvm.exec) {own C : String} {index : Nat} {y : MethodName} {bytes : ByteArray} {maxL : Nat} {ret : Option FieldType}
    (hown : s.vm.findClass own = some m.cls) (hlink : (Cond.methodLink own index y).before args s = true) (hinst : (Cond.instanceMethod y).before args s = true) (hsel : (Cond.selects C y y).before args s = true)
    (hcode : (Cond.code y bytes maxL ret).before args s = true) (hy : y.cls ≠ "java/lang/invoke/MethodHandle" ∧ y.cls ≠ "java/lang/invoke/VarHandle")
    {W9 : Nat} {Pre : Pt → Array Value → Prop} {Post : Pt → Array Value → Option Value → Pt → Prop} {PostX : Pt → Array Value → Addr → Pt → Prop} (hK : vx_Back l R p e below s args y 3 W9 Pre Post PostX)
    {b : Addr} {cellB : Cell} (hcell : T.heap[b]? = some cellB) (hobj : cellB.vm.isStatics = false) (hcls : s.vm.findClass C = some cellB.cls)
    {g : JFrame} (hg : g.method = m) (hsize : g.locals.size = c.maxLocals) {argsL rest : List Value} (hlen : ∀ sig, parseMethodDescriptor y.desc = some sig → argsL.length = sig.parameters.length)
    (hstack : g.stack = argsL.reverse ++ .ref b :: rest) (hW : 2 * g.monitorRoom + (rest.map fun v => v.category).sum ≤ W9) (hdg : decode c.code g.pc = .ok (.invokevirtual index, 3))
    (hpre : ∀ vm₁, s.WarmedH vm₁ → Pre ⟨T.setVm vm₁, locs, cells, slots⟩ (Value.ref b :: argsL).toArray) :
    (∃ (v : Option Value) (vm₁ : Vm) (B : Pt), s.WarmedH vm₁ ∧ Stand p l e R s m args below meth c B.U B.locs B.cells B.slots ∧ Post ⟨T.setVm vm₁, locs, cells, slots⟩ (Value.ref b :: argsL).toArray v B ∧
      ∀ target, Steps p.tables e below (B.U.setTop { g with pc := g.pc + 3, stack := v.toList ++ rest }) target → Steps p.tables e below (T.setTop g) target) ∨
    (∃ (q : Addr) (vm₁ : Vm) (B : Pt), s.WarmedH vm₁ ∧ Stand p l e R s m args below meth c B.U B.locs B.cells B.slots ∧ PostX ⟨T.setVm vm₁, locs, cells, slots⟩ (Value.ref b :: argsL).toArray q B ∧
      Steps p.tables e below (T.setTop g) ((B.U.setTop { g with stack := rest }).pushFrame (.throwing q))) := by
  obtain ⟨mk, methM, hnamed, hmethM, hstM, habM⟩ := Cond.instanceMethod_spec hinst
  obtain ⟨methM', cM, hmethM', -, -, -, -, -, -, hsigM⟩ := Cond.code_spec hnamed hcode
  cases hmethM.symm.trans hmethM'
  obtain ⟨c2, r2, m2, q1, q2, q3, q4, kP, hkP, hkPi⟩ := Cond.selects_spec hsel
  cases hcls.symm.trans q1
  cases (State.methodFound?_of_named hnamed hy).symm.trans q2
  cases hnamed.symm.trans q3
  have hselP : selectMethod e.platform s.vm cellB.cls mk = .method mk := by rw [Launch.admits_selectMethod X.admits]; exact q4
  obtain ⟨vm₁, X₁, hstep₁⟩ := X.invokevirtual hexec hown hlink hnamed hmethM hstM hkP hkPi hy (a := b) (cell := cellB) hcell
    (fun z h => by rw [h] at hobj; cases hobj) hselP hmethM habM hkP hkPi (g := g) hg (argsL := argsL) (rest := rest) (hlen _ hsigM) hstack hdg
  rcases hK m meth c ⟨T.setVm vm₁, locs, cells, slots⟩ { g with stack := rest } (.invokevirtual index) mk (Value.ref b :: argsL).toArray X₁ hg hsize hdg hW (X₁.named hnamed) (hpre vm₁ X₁.warmed) with ⟨v, B, X', hpost, hsteps⟩ | ⟨q, B, X', hpost, hsteps⟩
  · exact Or.inl ⟨v, vm₁, B, X₁.warmed, X', hpost, fun target h => hstep₁ _ fun acts => by rw [doInvoke_state]; exact hsteps.trans h⟩
  · exact Or.inr ⟨q, vm₁, B, X₁.warmed, X', hpost, hstep₁ _ fun acts => by rw [doInvoke_state]; exact hsteps⟩
theorem vx_callS (X : Stand p l e R s m args below meth c T locs cells slots) (hexec : p.tables.exec = Jvm.exec) {own : String} {index : Nat} {y : MethodName} {bytes : ByteArray} {maxL : Nat} {ret : Option FieldType}
    (hown : s.vm.findClass own = some m.cls) (hlink : (Cond.methodLink own index y).before args s = true) (hstat : (Cond.static y).before args s = true) (hinit : (Cond.initialized y.cls).before args s = true)
    (hcode : (Cond.code y bytes maxL ret).before args s = true) (hy : y.cls ≠ "java/lang/invoke/MethodHandle" ∧ y.cls ≠ "java/lang/invoke/VarHandle")
    {W9 : Nat} {Pre : Pt → Array Value → Prop} {Post : Pt → Array Value → Option Value → Pt → Prop} {PostX : Pt → Array Value → Addr → Pt → Prop} (hK : vx_Back l R p e below s args y 3 W9 Pre Post PostX)
    {g : JFrame} (hg : g.method = m) (hsize : g.locals.size = c.maxLocals) {argsL rest : List Value} (hlen : ∀ sig, parseMethodDescriptor y.desc = some sig → argsL.length = sig.parameters.length)
    (hstack : g.stack = argsL.reverse ++ rest) (hW : 2 * g.monitorRoom + (rest.map fun v => v.category).sum ≤ W9) (hdg : decode c.code g.pc = .ok (.invokestatic index, 3))
    (hpre : ∀ vm₁, s.WarmedH vm₁ → Pre ⟨T.setVm vm₁, locs, cells, slots⟩ argsL.toArray) :
    (∃ (v : Option Value) (vm₁ : Vm) (B : Pt), s.WarmedH vm₁ ∧ Stand p l e R s m args below meth c B.U B.locs B.cells B.slots ∧ Post ⟨T.setVm vm₁, locs, cells, slots⟩ argsL.toArray v B ∧
      ∀ target, Steps p.tables e below (B.U.setTop { g with pc := g.pc + 3, stack := v.toList ++ rest }) target → Steps p.tables e below (T.setTop g) target) ∨
    (∃ (q : Addr) (vm₁ : Vm) (B : Pt), s.WarmedH vm₁ ∧ Stand p l e R s m args below meth c B.U B.locs B.cells B.slots ∧ PostX ⟨T.setVm vm₁, locs, cells, slots⟩ argsL.toArray q B ∧
      Steps p.tables e below (T.setTop g) ((B.U.setTop { g with stack := rest }).pushFrame (.throwing q))) := by
  obtain ⟨mk, hnamed⟩ := Cond.code_named hcode
  obtain ⟨methM, cM, hmethM, -, -, -, -, -, -, hsigM⟩ := Cond.code_spec hnamed hcode
  have hstatic : methM.isStatic = true := Cond.static_spec hnamed hmethM hstat
  obtain ⟨kP, hkP, -⟩ := className_of_methodNamed hnamed
  have hinitP : kP.init = .initialized := Cond.initialized_spec (findClass_of_methodNamed hnamed) hkP hinit
  obtain ⟨vm₁, X₁, hstep₁⟩ := X.invokestatic hexec hown hlink hnamed hmethM hstatic hkP hinitP hy (g := g) hg (argsL := argsL) (rest := rest) (hlen _ hsigM) hstack hdg
  rcases hK m meth c ⟨T.setVm vm₁, locs, cells, slots⟩ { g with stack := rest } (.invokestatic index) mk argsL.toArray X₁ hg hsize hdg hW (X₁.named hnamed) (hpre vm₁ X₁.warmed) with ⟨v, B, X', hpost, hsteps⟩ | ⟨q, B, X', hpost, hsteps⟩
  · exact Or.inl ⟨v, vm₁, B, X₁.warmed, X', hpost, fun target h => hstep₁ _ fun acts => by rw [doInvoke_state]; exact hsteps.trans h⟩
  · exact Or.inr ⟨q, vm₁, B, X₁.warmed, X', hpost, hstep₁ _ fun acts => by rw [doInvoke_state]; exact hsteps⟩
end Calls
theorem vx_cls {s : State} {T : State} {vm₁ : Vm} {E : String} {k : ClassId} (hW : s.WarmedH vm₁) (h : (T.setVm vm₁).vm.findClass E = some k) : s.vm.findClass E = some k := by
  have h1 : vm₁.findClass E = some k := h
  rw [hW.alike.findClass] at h1
  exact h1
/-- the method's frame g, with q thrown over it -/
def vx_W (p : Program) (l : Launch) (e : Env) (R : Room) (s : State) (m : MethodId) (args : Array Value) (below : List Frame) (meth : Method) (c : Code) (H : Heap) (locs : List Loc) (cells slots : Nat) (Q : State → Prop) (g : JFrame) (q : Addr) : Prop :=
  ∀ T : State, T.heap = H → Stand p l e R s m args below meth c T locs cells slots → ∃ t, Steps p.tables e below ((T.setTop g).pushFrame (.throwing q)) t ∧ Q t
def vx_Run (p : Program) (l : Launch) (e : Env) (R : Room) (s : State) (m : MethodId) (args : Array Value) (below : List Frame) (meth : Method) (c : Code) (H : Heap) (locs : List Loc) (cells slots mc ms : Nat) (g : JFrame) (rest : List Value) (Qa : State → Outcome → State → Prop) (XC : String → State → State → Prop) (free : Addr → Prop) : Prop :=
  ∀ T : State, T.heap = H → Stand p l e R s m args below meth c T locs cells slots →
    (∃ (v : Option Value) (st₀ t T' : State) (L : List Loc), st₀.heap = H ∧ Stand p l e R s m args below meth c T' (locs ++ L) (cells + mc) (slots + ms) ∧ (∀ q ∈ L, free q.base) ∧ T'.heap = t.heap ∧ T'.vm = t.vm ∧ Qa st₀ (.returned v) t ∧
      Goes p e below T g T' { g with pc := g.pc + 3, stack := v.toList ++ rest }) ∨
    (∃ (q : Addr) (st₀ t T' : State) (L : List Loc) (E : String) (ce : Cell), st₀.heap = H ∧ Stand p l e R s m args below meth c T' (locs ++ L) (cells + mc) (slots + ms) ∧ (∀ z ∈ L, free z.base) ∧ T'.heap = t.heap ∧ T'.vm = t.vm ∧ XC E st₀ t ∧ t.heap[q]? = some ce ∧ ce.vm = .none ∧ s.vm.findClass E = some ce.cls ∧
      Steps p.tables e below (T.setTop g) ((T'.setTop { g with stack := rest }).pushFrame (.throwing q)))
def vx_X {S : Type} (px : S → Prop) (B : String → S → State → Prop) (A : Nat → Prop) : String → State → State → Prop := fun E st t => ∃ u : S, px u ∧ B E u t ∧ va_F A st t
section Runs
variable {p : Program} {l : Launch} {e : Env} {R : Room} {s : State} {m : MethodId} {args : Array Value} {below : List Frame} {meth : Method} {c : Code} {H : Heap} {locs : List Loc} {cells slots : Nat}
variable {y : MethodName} {bytes cc : ByteArray} {maxL nL mc ms n index : Nat} {ret : Option FieldType} {ws : List Cond} {rm : Room} {Pc : Array Value → State → Prop} {Qc : Array Value → State → Outcome → State → Prop} {XC : String → State → State → Prop} {free : Addr → Prop} {Ts : List Cond} {own C : String} {b : Addr} {As rest : List Value} {g : JFrame}
theorem vx_callBack (cb : CallB R s args own index y bytes maxL ret ws rm mc ms n) (hM : vx_Met l y ws rm Pc Qc XC mc ms free) (hbl : FrameBlind Pc) : vx_Back l R p e below s args y 3 8 (PreOf R mc ms Pc) (PostOf Qc mc ms free) (vx_Post XC mc ms free) := by
  obtain ⟨hrc, hrs, hfr, hlo, hws, hcw, -, hini, -⟩ := cb
  exact vx_back (bytes := bytes) (maxL := maxL) (ret := ret) hM hbl hrc hrs hfr hlo hws hcw (fun a' U hW => word_at hW (Or.inl (by first | rfl | simp [Cond.onTables, Cond.keeps, Cond.steady])) hini)
theorem vx_runV (S : CallFix p m c cc nL s args Ts own) (hM : vx_Met l y ws rm Pc Qc XC mc ms free) (cw : CallW R s args own C index y bytes maxL ret ws rm mc ms n) (hp : PreV s H C b Pc As)
    (hg : g.method = m) (hn : As.length = n) (hsize : g.locals.size = nL) (hstack : g.stack = As.reverse ++ .ref b :: rest) (hW : 2 * g.monitorRoom + (rest.map fun v => v.category).sum ≤ 8) (hdg : decode cc g.pc = .ok (.invokevirtual index, 3)) (hf : cells + mc ≤ R.cells ∧ slots + ms ≤ R.slots) :
    vx_Run p l e R s m args below meth c H locs cells slots mc ms g rest (Qc (Value.ref b :: As).toArray) XC free := by
  have hK : vx_Back l R p e below s args y 3 8 (PreOf R mc ms Pc) (PostOf Qc mc ms free) (vx_Post XC mc ms free) := vx_callBack cw.1 hM hp.1
  obtain ⟨⟨-, -, -, -, -, -, hcode, -, hy, hlen, hl⟩, hin, hse⟩ := cw
  obtain ⟨hx, hb, hml, ho, -⟩ := S
  obtain ⟨-, ⟨cellB, hcB, hoB, hclB⟩, hPc⟩ := hp
  intro T hT X
  rcases vx_callV X hx (C := C) (bytes := bytes) (maxL := maxL) (ret := ret) ho hl hin hse hcode hy hK (by rw [hT]; exact hcB) hoB hclB hg (hsize.trans hml.symm) (argsL := As) (rest := rest) (fun sig h => hn.trans (hlen sig h)) hstack hW (by rw [hb]; exact hdg)
    (fun vm₁ hW₁ => ⟨hf.1, hf.2, hPc (T.setVm vm₁) hT hW₁⟩) with ⟨v, vm₁, ⟨U', l2, c2, s2⟩, hW₁, X', ⟨g', mk, t, L, e1, e2, hq, h1, hL, h2, h3⟩, st⟩ | ⟨q, vm₁, ⟨U', l2, c2, s2⟩, hW₁, X', ⟨g', mk, t, L, E, ce, e1, e2, hq, hce, hcv, hcl, h1, hL, h2, h3⟩, st⟩
  · dsimp only [Pt.U, Pt.locs, Pt.cells, Pt.slots] at X' e1 e2 h1 h2 h3 st
    subst h1; subst h2; subst h3
    exact Or.inl ⟨v, (T.setVm vm₁).calling g' mk (Value.ref b :: As).toArray, t, U', L, hT, X', hL, e1, e2, hq, st⟩
  · dsimp only [Pt.U, Pt.locs, Pt.cells, Pt.slots] at X' e1 e2 h1 h2 h3 st hcl
    subst h1; subst h2; subst h3
    exact Or.inr ⟨q, (T.setVm vm₁).calling g' mk (Value.ref b :: As).toArray, t, U', L, E, ce, hT, X', hL, e1, e2, hq, hce, hcv, vx_cls hW₁ hcl, st⟩
theorem vx_runS (S : CallFix p m c cc nL s args Ts own) (hM : vx_Met l y ws rm Pc Qc XC mc ms free) (cw : CallB R s args own index y bytes maxL ret ws rm mc ms n ∧ (Cond.static y).before args s = true) (hp : PreS s H Pc As)
    (hg : g.method = m) (hn : As.length = n) (hsize : g.locals.size = nL) (hstack : g.stack = As.reverse ++ rest) (hW : 2 * g.monitorRoom + (rest.map fun v => v.category).sum ≤ 8) (hdg : decode cc g.pc = .ok (.invokestatic index, 3)) (hf : cells + mc ≤ R.cells ∧ slots + ms ≤ R.slots) :
    vx_Run p l e R s m args below meth c H locs cells slots mc ms g rest (Qc As.toArray) XC free := by
  have hK : vx_Back l R p e below s args y 3 8 (PreOf R mc ms Pc) (PostOf Qc mc ms free) (vx_Post XC mc ms free) := vx_callBack cw.1 hM hp.1
  obtain ⟨⟨-, -, -, -, -, -, hcode, hini, hy, hlen, hl⟩, hstt⟩ := cw
  obtain ⟨hx, hb, hml, ho, -⟩ := S
  intro T hT X
  rcases vx_callS X hx (bytes := bytes) (maxL := maxL) (ret := ret) ho hl hstt hini hcode hy hK hg (hsize.trans hml.symm) (argsL := As) (rest := rest) (fun sig h => hn.trans (hlen sig h)) hstack hW (by rw [hb]; exact hdg)
    (fun vm₁ hW₁ => ⟨hf.1, hf.2, hp.2 (T.setVm vm₁) hT hW₁⟩) with ⟨v, vm₁, ⟨U', l2, c2, s2⟩, hW₁, X', ⟨g', mk, t, L, e1, e2, hq, h1, hL, h2, h3⟩, st⟩ | ⟨q, vm₁, ⟨U', l2, c2, s2⟩, hW₁, X', ⟨g', mk, t, L, E, ce, e1, e2, hq, hce, hcv, hcl, h1, hL, h2, h3⟩, st⟩
  · dsimp only [Pt.U, Pt.locs, Pt.cells, Pt.slots] at X' e1 e2 h1 h2 h3 st
    subst h1; subst h2; subst h3
    exact Or.inl ⟨v, (T.setVm vm₁).calling g' mk As.toArray, t, U', L, hT, X', hL, e1, e2, hq, st⟩
  · dsimp only [Pt.U, Pt.locs, Pt.cells, Pt.slots] at X' e1 e2 h1 h2 h3 st hcl
    subst h1; subst h2; subst h3
    exact Or.inr ⟨q, (T.setVm vm₁).calling g' mk As.toArray, t, U', L, E, ce, hT, X', hL, e1, e2, hq, hce, hcv, vx_cls hW₁ hcl, st⟩
end Runs
section Rows
variable {p : Program} {l : Launch} {e : Env} {R : Room} {s : State} {m : MethodId} {args : Array Value} {below : List Frame} {meth : Method} {c : Code} {H : Heap} {locs : List Loc} {cells slots : Nat} {Q : State → Prop}
variable {mc ms : Nat} {free : Addr → Prop} {A0 A1 : Nat → Prop} {H0 : Heap} {a : Array Value} {pc : Nat} {ls : Array Slot} {st0 rest : List Value}
theorem vx_keep {st₀ t T' : State} {L : List Loc} (h0 : st₀.heap = H) (e1 : T'.heap = t.heap) (hS : va_S A0 H0 H locs) (hA : ∀ q, q < H.size → A1 q → A0 q) (hf : ∀ q, free q → A0 q) (hL : ∀ q ∈ L, free q.base) (hF : va_F A1 st₀ t) :
    H.size ≤ T'.heap.size ∧ (∀ q : Nat, q < H.size → ¬ A1 q → T'.heap[q]? = H[q]?) ∧ va_S A0 H0 T'.heap (locs ++ L) := by
  obtain ⟨hz, hk⟩ := hF
  rw [h0] at hz hk
  exact ⟨by rw [e1]; exact hz, fun q h1 h2 => by rw [e1]; exact hk q h1 h2,
    ⟨Nat.le_trans hS.1 (by rw [e1]; exact hz), fun q h1 h2 => by rw [e1, hk q (Nat.lt_of_lt_of_le h1 hS.1) (fun z => h2 (hA q (Nat.lt_of_lt_of_le h1 hS.1) z))]; exact hS.2.1 q h1 h2, fun q hq => by
      rcases List.mem_append.mp hq with h | h
      · exact hS.2.2 q h
      · exact hf _ (hL q h)⟩⟩
theorem vx_calli {S SX : Type} {post : Int32 → S → Prop} {px : SX → Prop} {B : S → State → Prop} {BX : String → SX → State → Prop} {AX : Nat → Prop} (hr : vx_Run p l e R s m args below meth c H locs cells slots mc ms (F0 m pc ls st0) rest (va_Qi post B A1 a) (vx_X px BX AX) free) (hS : va_S A0 H0 H locs) (hA : ∀ q, q < H.size → A1 q → A0 q) (hf : ∀ q, free q → A0 q) (hAX : ∀ q, q < H.size → AX q → A0 q)
    (kx : ∀ (E : String) (ce : Cell) (q9 : Addr) (u : SX) (t : State) (H1 : Heap) (locs1 : List Loc), t.heap = H1 → s.vm.Alike t.vm → px u → BX E u t → H.size ≤ H1.size → (∀ q : Nat, q < H.size → ¬ AX q → H1[q]? = H[q]?) → va_S A0 H0 H1 locs1 → H1[q9]? = some ce → ce.vm = .none → s.vm.findClass E = some ce.cls → vx_W p l e R s m args below meth c H1 locs1 (cells + mc) (slots + ms) Q (F0 m pc ls rest) q9)
    (kk : ∀ (r : Int32) (u : S) (t : State) (H1 : Heap) (locs1 : List Loc), t.heap = H1 → s.vm.Alike t.vm → post r u → B u t → H.size ≤ H1.size → (∀ q : Nat, q < H.size → ¬ A1 q → H1[q]? = H[q]?) → va_S A0 H0 H1 locs1 → W p l e R s m args below meth c H1 locs1 (cells + mc) (slots + ms) Q (F0 m (pc + 3) ls (.int r :: rest))) : W p l e R s m args below meth c H locs cells slots Q (F0 m pc ls st0) := by
  intro T hT X
  rcases hr T hT X with ⟨v, st₀, t, T', L, h0, X', hL, e1, e2, ⟨⟨r, u, hv, hp, hb⟩, hF⟩, st⟩ | ⟨q, st₀, t, T', L, E, ce, h0, X', hL, e1, e2, ⟨u, hp, hb, hF⟩, hce, hcv, hcl, st⟩
  · cases hv
    obtain ⟨k1, k2, k3⟩ := vx_keep h0 e1 hS hA hf hL hF
    obtain ⟨t2, a1, b1⟩ := kk r u t T'.heap (locs ++ L) e1.symm (by rw [← e2]; exact X'.warmed.alike) hp hb k1 k2 k3 T' rfl X'
    exact ⟨t2, st t2 a1, b1⟩
  · obtain ⟨k1, k2, k3⟩ := vx_keep h0 e1 hS hAX hf hL hF
    obtain ⟨t2, a1, b1⟩ := kx E ce q u t T'.heap (locs ++ L) e1.symm (by rw [← e2]; exact X'.warmed.alike) hp hb k1 k2 k3 (by rw [e1]; exact hce) hcv hcl T' rfl X'
    exact ⟨t2, st.trans a1, b1⟩
theorem vx_calll {S SX : Type} {post : Int64 → S → Prop} {px : SX → Prop} {B : S → State → Prop} {BX : String → SX → State → Prop} {AX : Nat → Prop} (hr : vx_Run p l e R s m args below meth c H locs cells slots mc ms (F0 m pc ls st0) rest (va_Ql post B A1 a) (vx_X px BX AX) free) (hS : va_S A0 H0 H locs) (hA : ∀ q, q < H.size → A1 q → A0 q) (hf : ∀ q, free q → A0 q) (hAX : ∀ q, q < H.size → AX q → A0 q)
    (kx : ∀ (E : String) (ce : Cell) (q9 : Addr) (u : SX) (t : State) (H1 : Heap) (locs1 : List Loc), t.heap = H1 → s.vm.Alike t.vm → px u → BX E u t → H.size ≤ H1.size → (∀ q : Nat, q < H.size → ¬ AX q → H1[q]? = H[q]?) → va_S A0 H0 H1 locs1 → H1[q9]? = some ce → ce.vm = .none → s.vm.findClass E = some ce.cls → vx_W p l e R s m args below meth c H1 locs1 (cells + mc) (slots + ms) Q (F0 m pc ls rest) q9)
    (kk : ∀ (r : Int64) (u : S) (t : State) (H1 : Heap) (locs1 : List Loc), t.heap = H1 → s.vm.Alike t.vm → post r u → B u t → H.size ≤ H1.size → (∀ q : Nat, q < H.size → ¬ A1 q → H1[q]? = H[q]?) → va_S A0 H0 H1 locs1 → W p l e R s m args below meth c H1 locs1 (cells + mc) (slots + ms) Q (F0 m (pc + 3) ls (.long r :: rest))) : W p l e R s m args below meth c H locs cells slots Q (F0 m pc ls st0) := by
  intro T hT X
  rcases hr T hT X with ⟨v, st₀, t, T', L, h0, X', hL, e1, e2, ⟨⟨r, u, hv, hp, hb⟩, hF⟩, st⟩ | ⟨q, st₀, t, T', L, E, ce, h0, X', hL, e1, e2, ⟨u, hp, hb, hF⟩, hce, hcv, hcl, st⟩
  · cases hv
    obtain ⟨k1, k2, k3⟩ := vx_keep h0 e1 hS hA hf hL hF
    obtain ⟨t2, a1, b1⟩ := kk r u t T'.heap (locs ++ L) e1.symm (by rw [← e2]; exact X'.warmed.alike) hp hb k1 k2 k3 T' rfl X'
    exact ⟨t2, st t2 a1, b1⟩
  · obtain ⟨k1, k2, k3⟩ := vx_keep h0 e1 hS hAX hf hL hF
    obtain ⟨t2, a1, b1⟩ := kx E ce q u t T'.heap (locs ++ L) e1.symm (by rw [← e2]; exact X'.warmed.alike) hp hb k1 k2 k3 (by rw [e1]; exact hce) hcv hcl T' rfl X'
    exact ⟨t2, st.trans a1, b1⟩
theorem vx_callf {S SX : Type} {post : UInt32 → S → Prop} {px : SX → Prop} {B : S → State → Prop} {BX : String → SX → State → Prop} {AX : Nat → Prop} (hr : vx_Run p l e R s m args below meth c H locs cells slots mc ms (F0 m pc ls st0) rest (va_Qf post B A1 a) (vx_X px BX AX) free) (hS : va_S A0 H0 H locs) (hA : ∀ q, q < H.size → A1 q → A0 q) (hf : ∀ q, free q → A0 q) (hAX : ∀ q, q < H.size → AX q → A0 q)
    (kx : ∀ (E : String) (ce : Cell) (q9 : Addr) (u : SX) (t : State) (H1 : Heap) (locs1 : List Loc), t.heap = H1 → s.vm.Alike t.vm → px u → BX E u t → H.size ≤ H1.size → (∀ q : Nat, q < H.size → ¬ AX q → H1[q]? = H[q]?) → va_S A0 H0 H1 locs1 → H1[q9]? = some ce → ce.vm = .none → s.vm.findClass E = some ce.cls → vx_W p l e R s m args below meth c H1 locs1 (cells + mc) (slots + ms) Q (F0 m pc ls rest) q9)
    (kk : ∀ (r : UInt32) (u : S) (t : State) (H1 : Heap) (locs1 : List Loc), t.heap = H1 → s.vm.Alike t.vm → post r u → B u t → H.size ≤ H1.size → (∀ q : Nat, q < H.size → ¬ A1 q → H1[q]? = H[q]?) → va_S A0 H0 H1 locs1 → W p l e R s m args below meth c H1 locs1 (cells + mc) (slots + ms) Q (F0 m (pc + 3) ls (.float r :: rest))) : W p l e R s m args below meth c H locs cells slots Q (F0 m pc ls st0) := by
  intro T hT X
  rcases hr T hT X with ⟨v, st₀, t, T', L, h0, X', hL, e1, e2, ⟨⟨r, u, hv, hp, hb⟩, hF⟩, st⟩ | ⟨q, st₀, t, T', L, E, ce, h0, X', hL, e1, e2, ⟨u, hp, hb, hF⟩, hce, hcv, hcl, st⟩
  · cases hv
    obtain ⟨k1, k2, k3⟩ := vx_keep h0 e1 hS hA hf hL hF
    obtain ⟨t2, a1, b1⟩ := kk r u t T'.heap (locs ++ L) e1.symm (by rw [← e2]; exact X'.warmed.alike) hp hb k1 k2 k3 T' rfl X'
    exact ⟨t2, st t2 a1, b1⟩
  · obtain ⟨k1, k2, k3⟩ := vx_keep h0 e1 hS hAX hf hL hF
    obtain ⟨t2, a1, b1⟩ := kx E ce q u t T'.heap (locs ++ L) e1.symm (by rw [← e2]; exact X'.warmed.alike) hp hb k1 k2 k3 (by rw [e1]; exact hce) hcv hcl T' rfl X'
    exact ⟨t2, st.trans a1, b1⟩
theorem vx_calld {S SX : Type} {post : UInt64 → S → Prop} {px : SX → Prop} {B : S → State → Prop} {BX : String → SX → State → Prop} {AX : Nat → Prop} (hr : vx_Run p l e R s m args below meth c H locs cells slots mc ms (F0 m pc ls st0) rest (va_Qd post B A1 a) (vx_X px BX AX) free) (hS : va_S A0 H0 H locs) (hA : ∀ q, q < H.size → A1 q → A0 q) (hf : ∀ q, free q → A0 q) (hAX : ∀ q, q < H.size → AX q → A0 q)
    (kx : ∀ (E : String) (ce : Cell) (q9 : Addr) (u : SX) (t : State) (H1 : Heap) (locs1 : List Loc), t.heap = H1 → s.vm.Alike t.vm → px u → BX E u t → H.size ≤ H1.size → (∀ q : Nat, q < H.size → ¬ AX q → H1[q]? = H[q]?) → va_S A0 H0 H1 locs1 → H1[q9]? = some ce → ce.vm = .none → s.vm.findClass E = some ce.cls → vx_W p l e R s m args below meth c H1 locs1 (cells + mc) (slots + ms) Q (F0 m pc ls rest) q9)
    (kk : ∀ (r : UInt64) (u : S) (t : State) (H1 : Heap) (locs1 : List Loc), t.heap = H1 → s.vm.Alike t.vm → post r u → B u t → H.size ≤ H1.size → (∀ q : Nat, q < H.size → ¬ A1 q → H1[q]? = H[q]?) → va_S A0 H0 H1 locs1 → W p l e R s m args below meth c H1 locs1 (cells + mc) (slots + ms) Q (F0 m (pc + 3) ls (.double r :: rest))) : W p l e R s m args below meth c H locs cells slots Q (F0 m pc ls st0) := by
  intro T hT X
  rcases hr T hT X with ⟨v, st₀, t, T', L, h0, X', hL, e1, e2, ⟨⟨r, u, hv, hp, hb⟩, hF⟩, st⟩ | ⟨q, st₀, t, T', L, E, ce, h0, X', hL, e1, e2, ⟨u, hp, hb, hF⟩, hce, hcv, hcl, st⟩
  · cases hv
    obtain ⟨k1, k2, k3⟩ := vx_keep h0 e1 hS hA hf hL hF
    obtain ⟨t2, a1, b1⟩ := kk r u t T'.heap (locs ++ L) e1.symm (by rw [← e2]; exact X'.warmed.alike) hp hb k1 k2 k3 T' rfl X'
    exact ⟨t2, st t2 a1, b1⟩
  · obtain ⟨k1, k2, k3⟩ := vx_keep h0 e1 hS hAX hf hL hF
    obtain ⟨t2, a1, b1⟩ := kx E ce q u t T'.heap (locs ++ L) e1.symm (by rw [← e2]; exact X'.warmed.alike) hp hb k1 k2 k3 (by rw [e1]; exact hce) hcv hcl T' rfl X'
    exact ⟨t2, st.trans a1, b1⟩
theorem vx_callv {S SX : Type} {post : S → Prop} {px : SX → Prop} {B : S → State → Prop} {BX : String → SX → State → Prop} {AX : Nat → Prop} (hr : vx_Run p l e R s m args below meth c H locs cells slots mc ms (F0 m pc ls st0) rest (va_Qv post B A1 a) (vx_X px BX AX) free) (hS : va_S A0 H0 H locs) (hA : ∀ q, q < H.size → A1 q → A0 q) (hf : ∀ q, free q → A0 q) (hAX : ∀ q, q < H.size → AX q → A0 q)
    (kx : ∀ (E : String) (ce : Cell) (q9 : Addr) (u : SX) (t : State) (H1 : Heap) (locs1 : List Loc), t.heap = H1 → s.vm.Alike t.vm → px u → BX E u t → H.size ≤ H1.size → (∀ q : Nat, q < H.size → ¬ AX q → H1[q]? = H[q]?) → va_S A0 H0 H1 locs1 → H1[q9]? = some ce → ce.vm = .none → s.vm.findClass E = some ce.cls → vx_W p l e R s m args below meth c H1 locs1 (cells + mc) (slots + ms) Q (F0 m pc ls rest) q9)
    (kk : ∀ (u : S) (t : State) (H1 : Heap) (locs1 : List Loc), t.heap = H1 → s.vm.Alike t.vm → post u → B u t → H.size ≤ H1.size → (∀ q : Nat, q < H.size → ¬ A1 q → H1[q]? = H[q]?) → va_S A0 H0 H1 locs1 → W p l e R s m args below meth c H1 locs1 (cells + mc) (slots + ms) Q (F0 m (pc + 3) ls (rest))) : W p l e R s m args below meth c H locs cells slots Q (F0 m pc ls st0) := by
  intro T hT X
  rcases hr T hT X with ⟨v, st₀, t, T', L, h0, X', hL, e1, e2, ⟨⟨u, hv, hp, hb⟩, hF⟩, st⟩ | ⟨q, st₀, t, T', L, E, ce, h0, X', hL, e1, e2, ⟨u, hp, hb, hF⟩, hce, hcv, hcl, st⟩
  · cases hv
    obtain ⟨k1, k2, k3⟩ := vx_keep h0 e1 hS hA hf hL hF
    obtain ⟨t2, a1, b1⟩ := kk u t T'.heap (locs ++ L) e1.symm (by rw [← e2]; exact X'.warmed.alike) hp hb k1 k2 k3 T' rfl X'
    exact ⟨t2, st t2 a1, b1⟩
  · obtain ⟨k1, k2, k3⟩ := vx_keep h0 e1 hS hAX hf hL hF
    obtain ⟨t2, a1, b1⟩ := kx E ce q u t T'.heap (locs ++ L) e1.symm (by rw [← e2]; exact X'.warmed.alike) hp hb k1 k2 k3 (by rw [e1]; exact hce) hcv hcl T' rfl X'
    exact ⟨t2, st.trans a1, b1⟩
/-- caught by the row x of this method's table; the rows ahead don't take it -/
theorem vx_catch {own name : String} {E : String} {ce : Cell} {q : Addr} (hown : s.vm.findClass own = some m.cls) (pre : List ExceptionTableEntry) (x : ExceptionTableEntry) (suf : List ExceptionTableEntry) (hsplit : c.exceptionTable.toList = pre ++ x :: suf)
    (hpass : ∀ z ∈ pre, covers z pc = false ∨ (z.catchType ≠ 0 ∧ ∃ nm : String, (Cond.classLink own z.catchType nm).before args s = true ∧ va_Nc E nm s)) (hx : covers x pc = true) (h0 : x.catchType ≠ 0)
    (hlink : (Cond.classLink own x.catchType name).before args s = true) (hcast : (Cond.castable E name).before args s = true) (hcell : H[q]? = some ce) (hv : ce.vm = .none) (hcl : s.vm.findClass E = some ce.cls)
    (kk : W p l e R s m args below meth c H locs cells slots Q (F0 m x.handlerPc ls [.ref q])) : vx_W p l e R s m args below meth c H locs cells slots Q (F0 m pc ls rest) q := by
  intro T hT X
  have hpl : e.platform.magicAccessors = ({} : Platform).magicAccessors := by rw [X.admits.platform]
  obtain ⟨c3, c4, hc3, hc4, hasg⟩ := Cond.castable_spec hcast
  cases Option.some.inj (hc3.symm.trans hcl)
  obtain ⟨c5, hc5, hcl5⟩ := Cond.classLink_spec hown hlink e.platform hpl
  cases Option.some.inj (hc4.symm.trans hc5)
  obtain ⟨vm', X', st⟩ := X.thenCaughtThrough q (g := F0 m pc ls rest) rfl (Steps.refl _) (by rw [hT]; exact hcell) (by rw [hv]; rfl) (by obtain ⟨k9, h9, -⟩ := Vm.findClass_spec hcl; exact ⟨k9, h9⟩) pre x suf hsplit
    (fun z hz => by
      rcases hpass z hz with h | ⟨hz0, nm, hl1, hn1⟩
      · exact Or.inl h
      · obtain ⟨c6, hc6, hcl6⟩ := Cond.classLink_spec hown hl1 e.platform hpl
        obtain ⟨a8, b8, h1, h2, h3⟩ := hn1
        cases Option.some.inj (h1.symm.trans hcl)
        cases Option.some.inj (h2.symm.trans hc6)
        exact Or.inr ⟨hz0, _, hcl6, h3⟩) hx (Or.inr ⟨h0, c4, hcl5, hasg⟩)
  obtain ⟨t, a1, b1⟩ := kk (T.setVm vm') hT X'
  exact ⟨t, st.trans a1, b1⟩
end Rows
section Ends
variable {p : Program} {l : Launch} {e : Env} {R : Room} {s : State} {m : MethodId} {args : Array Value} {below : List Frame} {meth : Method} {c : Code} {H : Heap} {locs : List Loc} {cells slots : Nat} {Q : State → Prop}
variable {mc ms : Nat} {free : Addr → Prop} {A0 A1 : Nat → Prop} {H0 : Heap} {a : Array Value} {ls : Array Slot} {st0 rest : List Value}
variable {Qc : Array Value → State → Outcome → State → Prop} {XC : String → State → State → Prop}
/-- what a body that may throw owes at its end -/
def vx_MQ (below : List Frame) (Qc : Array Value → State → Outcome → State → Prop) (XC : String → State → State → Prop) (a : Array Value) (s : State) (mc ms : Nat) (free : Addr → Prop) : State → Prop := fun t =>
  ∃ o, t.status = .running ∧ Ended t below o ∧ vx_Q Qc XC mc ms free a s o t
theorem vx_ret {g : JFrame} {mc ms : Nat} (k : W p l e R s m args below meth c H locs cells slots (MQ below Qc args s mc ms free) g) : W p l e R s m args below meth c H locs cells slots (vx_MQ below Qc XC args s mc ms free) g := by
  intro T hT X
  obtain ⟨t, a1, o, b1, b2, b3, b4⟩ := k T hT X
  exact ⟨t, a1, o, b1, b2, Or.inl ⟨b3, b4⟩⟩
/-- not caught here: it goes on to the caller -/
theorem vx_widen {g : JFrame} {q : Addr} {k n : Nat} (h1 : cells ≤ k) (h2 : slots ≤ n) (kk : vx_W p l e R s m args below meth c H locs k n Q g q) : vx_W p l e R s m args below meth c H locs cells slots Q g q := fun T hT X => kk T hT (stand_widen X h1 h2)
theorem vx_out {pc : Nat} {E : String} {ce : Cell} {q : Addr} {mc ms : Nat} (hout : ∀ x ∈ c.exceptionTable.toList, covers x pc = false) (hlocks : meth.locks = false) (hcell : H[q]? = some ce) (hv : ce.vm = .none) (hcl : s.vm.findClass E = some ce.cls)
    (hx : ∀ t : State, t.heap = H → s.vm.Alike t.vm → XC E s t) (hf : ∀ z ∈ locs, free z.base) (hc : cells ≤ mc) (hs : slots ≤ ms) :
    vx_W p l e R s m args below meth c H locs cells slots (vx_MQ below Qc XC args s mc ms free) (F0 m pc ls rest) q := by
  intro T hT X
  obtain ⟨st1, hrun, hend, hW, hsm⟩ := X.leaveThrown q (g := F0 m pc ls rest) rfl rfl rfl hout hlocks
  have hcell9 : (T.setFrames (.throwing q :: below)).heap[q]? = some ce := by
    show T.heap[q]? = some ce
    rw [hT]; exact hcell
  exact ⟨_, st1, .threw q, hrun, hend, Or.inr ⟨q, rfl, E, ce, locs, hx _ hT hW.alike, hcell9, hv, hcl, hW, hsm.mono hc hs, hf⟩⟩
theorem vx_frame {U : State} {k n : Nat} (h : s.sameButNew ({ U with vm := s.vm } : State) locs k n) : s.heap.size ≤ U.heap.size ∧ ∀ q : Nat, q < s.heap.size → (∀ z ∈ locs, z.base ≠ q) → U.heap[q]? = s.heap[q]? := by
  obtain ⟨-, h2, -, -, -, h6⟩ := h
  refine ⟨h2, fun q hq hz => ?_⟩
  obtain ⟨c9, e1, e2, e3, e4⟩ := h6 q _ (Array.getElem?_eq_getElem hq)
  have hs : c9.slots = (s.heap[q]).slots := Array.ext_getElem? fun i => e4 i fun hm => hz _ hm rfl
  have h9 : c9 = s.heap[q] := by
    rw [hs] at e2
    exact e2
  have e5 : U.heap[q]? = some c9 := e1
  rw [e5, h9, Array.getElem?_eq_getElem hq]
/-- the words of a throw but the four that speak of the heap -/
def vx_no (w : Cond) : Bool := decide (w ≠ .isRef (.static Bundle.tN "UNASSIGNED_STACK" Bundle.steD)) && decide (w ≠ .isRef (.static Bundle.tN "SUPPRESSED_SENTINEL" Bundle.listD)) && decide (w ≠ .laysStatic Bundle.tN "UNASSIGNED_STACK" Bundle.steD) && decide (w ≠ .laysStatic Bundle.tN "SUPPRESSED_SENTINEL" Bundle.listD)
def vx_at0 (own : String) (ic : Nat) (X : String) (names : List String) : List Cond := (Bundle.ownAtoms0 own ic X names).filter vx_no
def vx_atS (own : String) (ic : Nat) (X : String) (names : List String) : List Cond := (Bundle.ownAtoms own ic X names).filter vx_no
/-- a word that the tables alone decide, or a good one -/
def vx_ot (w : Cond) : Bool := w.onTables || goodWord w
theorem vx_ot_at {args a' : Array Value} {s U : State} {w : Cond} (hW : s.WarmedH U.vm) (hvm : s.vm = U.vm) (hg : vx_ot w = true) (h : w.before args s = true) : w.before a' U = true := by
  simp only [vx_ot, Bool.or_eq_true] at hg
  rcases hg with hg | hg
  · exact va_tabs hg hvm h
  · exact word_at hW (good_of_word hg) h
/-- a list's words: the good ones out of the method's own list, the others by premises of their own -/
theorem vx_hat {args : Array Value} {s : State} {L B : List Cond} (h1 : ∀ w ∈ L.filter goodWord, w.before args s = true) (h2 : ∀ w ∈ L.filter (fun w => !goodWord w), w ∈ B) (h3 : ∀ w ∈ B, w.before args s = true) : ∀ w ∈ L, w.before args s = true := by
  intro w hw
  by_cases g : goodWord w = true
  · exact h1 w (List.mem_filter.mpr ⟨hw, g⟩)
  · refine h3 w (h2 w (List.mem_filter.mpr ⟨hw, ?_⟩))
    show (!goodWord w) = true
    cases hgw : goodWord w
    · rfl
    · exact absurd hgw g
theorem vx_c {args : Array Value} {s : State} {w : Cond} {B : List Cond} (h : w.before args s = true) (t : ∀ w ∈ B, w.before args s = true) : ∀ w' ∈ w :: B, w'.before args s = true := fun w' h' => (List.mem_cons.mp h').elim (fun e => by rw [e]; exact h) (t w')
theorem vx_n {args : Array Value} {s : State} : ∀ w ∈ ([] : List Cond), w.before args s = true := fun _ h => nomatch h
theorem vx_own {args : Array Value} {s : State} {L : List Cond} (h1 : ∀ w ∈ L.filter vx_no, w.before args s = true)
    (hU : (Cond.isRef (.static Bundle.tN "UNASSIGNED_STACK" Bundle.steD)).before args s = true) (hN : (Cond.isRef (.static Bundle.tN "SUPPRESSED_SENTINEL" Bundle.listD)).before args s = true)
    (lU : (Cond.laysStatic Bundle.tN "UNASSIGNED_STACK" Bundle.steD).before args s = true) (lN : (Cond.laysStatic Bundle.tN "SUPPRESSED_SENTINEL" Bundle.listD).before args s = true) : ∀ w ∈ L, w.before args s = true := by
  intro w hw
  by_cases e1 : w = .isRef (.static Bundle.tN "UNASSIGNED_STACK" Bundle.steD)
  · rw [e1]; exact hU
  · by_cases e2 : w = .isRef (.static Bundle.tN "SUPPRESSED_SENTINEL" Bundle.listD)
    · rw [e2]; exact hN
    · by_cases e3 : w = .laysStatic Bundle.tN "UNASSIGNED_STACK" Bundle.steD
      · rw [e3]; exact lU
      · by_cases e4 : w = .laysStatic Bundle.tN "SUPPRESSED_SENTINEL" Bundle.listD
        · rw [e4]; exact lN
        · exact h1 w (List.mem_filter.mpr ⟨hw, by unfold vx_no; rw [decide_eq_true e1, decide_eq_true e2, decide_eq_true e3, decide_eq_true e4]; rfl⟩)
/-- where a static field lies, its class's statics cell in H -/
def vx_L (C n d : String) (A : Nat → Prop) (U : State) (H : Heap) : Prop := ∃ (c : ClassId) (k : Class) (i : Nat) (f : Field) (a : Nat) (cell : Cell), U.vm.findClass C = some c ∧ U.fieldFound? C n d = some (c, k, i, f) ∧ f.isStatic = true ∧ k.statics = some a ∧ H[a]? = some cell ∧ cell.vm.isStatics = true ∧ cell.cls = c ∧ f.slot < cell.slots.size ∧ k.staticTypes[f.slot]? = some f.type ∧ ¬ A a
theorem vx_L.moved {C n d : String} {A : Nat → Prop} {u U : State} {H : Heap} (hvm : u.vm.Alike U.vm) (h : vx_L C n d A u H) : vx_L C n d A U H := by
  obtain ⟨c, k, i, f, a, cell, h1, h2, h3, h4, h5, h6, h7, h8, h9, h10⟩ := h
  obtain ⟨k', hi', he⟩ := State.fieldFound?_setVm hvm h2
  exact ⟨c, k', i, f, a, cell, by rw [hvm.findClass]; exact h1, hi', h3, by rw [he]; exact h4, h5, h6, h7, h8, by rw [he]; exact h9, h10⟩
theorem vx_L.kept {C n d : String} {A : Nat → Prop} {U : State} {H H1 : Heap} (h : vx_L C n d A U H) (hq : ∀ a : Nat, a < H.size → ¬ A a → H1[a]? = H[a]?) : vx_L C n d A U H1 := by
  obtain ⟨c, k, i, f, a, cell, h1, h2, h3, h4, h5, h6, h7, h8, h9, h10⟩ := h
  exact ⟨c, k, i, f, a, cell, h1, h2, h3, h4, by rw [hq a (Array.getElem?_eq_some_iff.mp h5).1 h10]; exact h5, h6, h7, h8, h9, h10⟩
theorem vx_L.narrow {C n d : String} {A B : Nat → Prop} {U : State} {H : Heap} (h : vx_L C n d A U H) (hAB : ∀ q, B q → A q) : vx_L C n d B U H := by
  obtain ⟨c, k, i, f, a, cell, h1, h2, h3, h4, h5, h6, h7, h8, h9, h10⟩ := h
  exact ⟨c, k, i, f, a, cell, h1, h2, h3, h4, h5, h6, h7, h8, h9, fun z => h10 (hAB _ z)⟩
theorem vx_L.word {C n d : String} {A : Nat → Prop} {s : State} {args : Array Value} (h : vx_L C n d A s s.heap) : (Cond.laysStatic C n d).before args s = true := by
  obtain ⟨c, k, i, f, a, cell, h1, h2, h3, h4, h5, h6, h7, h8, h9, -⟩ := h
  show (Cond.laysStatic C n d).holds args s none s [] = true
  exact Cond.laysStatic_of h1 h2 h3 h4 h5 h6 h7 h8 h9
/-- .. and what it holds: null or some reference -/
def vx_Zq (C n d : String) (A : Nat → Prop) (U : State) (H : Heap) : Prop := va_Zq C n d A U H ∧ vx_L C n d A U H
theorem vx_Zq.moved {C n d : String} {A : Nat → Prop} {u U : State} {H : Heap} (hvm : u.vm.Alike U.vm) (h : vx_Zq C n d A u H) : vx_Zq C n d A U H := ⟨va_Zq.moved hvm h.1, vx_L.moved hvm h.2⟩
theorem vx_Zq.kept {C n d : String} {A : Nat → Prop} {U : State} {H H1 : Heap} (h : vx_Zq C n d A U H) (hq : ∀ a : Nat, a < H.size → ¬ A a → H1[a]? = H[a]?) : vx_Zq C n d A U H1 := ⟨va_Zq.kept h.1 hq, vx_L.kept h.2 hq⟩
theorem vx_Zq.narrow {C n d : String} {A B : Nat → Prop} {U : State} {H : Heap} (h : vx_Zq C n d A U H) (hAB : ∀ q, B q → A q) : vx_Zq C n d B U H := ⟨va_Zq.narrow h.1 hAB, vx_L.narrow h.2 hAB⟩
theorem vx_Zqof {args : Array Value} {s : State} {C n d : String} {A : Nat → Prop} (hl : (Cond.laysStatic C n d).before args s = true) (hini : (Cond.initialized C).before args s = true) (h : (Cond.isRef (.static C n d)).before args s = true) (hA : ∀ a : Nat, a < s.heap.size → ¬ A a) : vx_Zq C n d A s s.heap := by
  refine ⟨va_Zqof hl hini h hA, ?_⟩
  obtain ⟨c, k, i, f, a, cell, h1, h2, h3, h4, h5, h6, h7, h8, h9⟩ := Cond.laysStatic_spec hl
  exact ⟨c, k, i, f, a, cell, h1, h2, h3, h4, h5, h6, h7, h8, h9, hA a (Array.getElem?_eq_some_iff.mp h5).1⟩
theorem vx_isRef {C n d : String} {v : Value} {A : Nat → Prop} {s : State} {args : Array Value} (h : va_Z C n d v A s s.heap) (hv : v.isRef = true) : (Cond.isRef (.static C n d)).before args s = true := by
  obtain ⟨cf, kf, fi, f, a, cell, h1, h2, h3, h4, h5, h6, h7, -⟩ := h
  have he : (Term.static C n d).eval args s none [] s = some v := by
    simp [Term.eval, State.fieldNamed?, h1, h2, h4, h5, h6, h7]
  simp only [Cond.before, Cond.holds, Cond.value, he]
  cases v <;> simp_all [Value.isRef]
theorem vx_isRefq {C n d : String} {A : Nat → Prop} {s : State} {args : Array Value} (h : va_Zq C n d A s s.heap) : (Cond.isRef (.static C n d)).before args s = true := by
  rcases h with h | ⟨t, h⟩
  · exact vx_isRef h rfl
  · exact vx_isRef h rfl
/-- the same frame, seen from here: as if the method were called anew in this heap -/
theorem vx_rebase {T : State} (X : Stand p l e R s m args below meth c T locs cells slots) {R' : Room} (hf : R'.frames ≤ R.frames) (hl : R'.locals ≤ R.locals) (hc : cells + R'.cells ≤ R.cells) (hs : slots + R'.slots ≤ R.slots) :
    Stand p l e R' ((T.setVm s.vm).setFrames (.invoking m args :: below)) m args below meth c T [] 0 0 := by
  have htop : (T.setVm s.vm).topJava?.isSome := X.here.top
  have hF : ((T.setVm s.vm).setFrames (.invoking m args :: below)).frames = .invoking m args :: below := State.frames_setFrames _ (State.cur_lt_of_top htop)
  obtain ⟨g₀, hg0⟩ := Option.isSome_iff_exists.mp htop
  obtain ⟨r, hr⟩ := State.topJava?_eq_some.mp hg0
  have hl9 : e.platform.stackLimits (T.setVm s.vm).me = e.platform.stackLimits s.me := X.limits
  have hb9 : (T.setVm s.vm).me.stackBytes = s.me.stackBytes := X.bytes
  refine ⟨X.admits, X.cas, X.clock, hF, ?_, X.hears, X.method, X.code, X.here, X.tail, X.warmed, ?_, ?_, ?_⟩
  · have h := X.room
    have hU : ((T.setVm s.vm).setFrames (.invoking m args :: below)).localsInUse = s.localsInUse := by
      rw [State.localsInUse_invoking hF (meth := meth) (c := c) X.method X.code, State.localsInUse_invoking X.frames X.method X.code]
    simp only [State.hasRoom, Bool.and_eq_true, decide_eq_true_eq] at h ⊢
    obtain ⟨⟨⟨⟨h1, h2, h3, h4, h5, h6⟩, h7⟩, h8⟩, h9⟩ := h
    rw [X.frames, List.length_cons] at h2 h3
    have q1 := X.heapSize
    have q2 := X.used
    simp only [hF, hU, List.length_cons, State.stackLimits_setFrames, State.stackBytes_setFrames, hl9, hb9]
    refine ⟨⟨⟨⟨by omega, by omega, by omega, by omega, by omega, h6⟩, ?_⟩, ?_⟩, X.book⟩
    · show T.heap.size + R'.cells ≤ e.platform.maxCells
      omega
    · show T.slotsUsed + R'.slots ≤ e.platform.maxSlots
      omega
  · rw [State.stackLimits_setFrames]; rfl
  · rw [State.stackBytes_setFrames]; rfl
  · refine ⟨?_, Nat.le_refl _, Nat.le_refl _, ?_, ?_, fun a c9 h9 => ⟨c9, h9, rfl, rfl, fun _ _ => rfl⟩⟩
    · obtain ⟨t, ht, -⟩ := State.frames_cons hr
      show T.setVm s.vm = { ((T.setVm s.vm).setFrames (.invoking m args :: below)).setFrames (T.setVm s.vm).frames with heap := T.heap, slotsUsed := T.slotsUsed }
      rw [State.setFrames_setFrames, State.setFrames_self ht]
      rfl
    · show T.slotsUsed = T.slotsUsed + ((T.heap.toList.drop T.heap.size).map (·.slots.size)).sum
      rw [List.drop_eq_nil_of_le (Nat.le_of_eq Array.length_toList)]
      rfl
    · show ((T.heap.toList.drop T.heap.size).map (·.slots.size)).sum ≤ 0
      rw [List.drop_eq_nil_of_le (Nat.le_of_eq Array.length_toList)]
      exact Nat.le_refl _
/-- 'throw new E()': new; dup; invokespecial; athrow -/
theorem vx_throw0 {cc : ByteArray} {pc : Nat} (hexec : p.tables.exec = Jvm.exec) (hb : c.code = cc) (hl : l.stackTraces = false) {own cls : String} {names : List String} {ik ic mc ms : Nat} {A : Nat → Prop}
    (hown : s.vm.findClass own = some m.cls) (hcls : Bundle.fit cls = true) (hnames : ∀ n ∈ names, Bundle.fit n = true)
    (hk : (Cond.classLink own ik cls).before args s = true) (hini : (Cond.initialized cls).before args s = true) (hat : ∀ w ∈ vx_at0 own ic cls names, w.before args s = true)
    (hgood : ∀ w ∈ Cond.classLink own ik cls :: Cond.initialized cls :: vx_at0 own ic cls names, vx_ot w = true)
    (hU : vx_Zq Bundle.tN "UNASSIGNED_STACK" Bundle.steD A s s.heap) (hN : vx_Zq Bundle.tN "SUPPRESSED_SENTINEL" Bundle.listD A s s.heap) (hS : va_S A s.heap H locs) (hsize : ls.size = c.maxLocals)
    (d0 : decode cc pc = .ok (.new ik, 3)) (d3 : decode cc (pc + 3) = .ok (.dup, 1)) (d4 : decode cc (pc + 4) = .ok (.invokespecial ic, 3)) (d7 : decode cc (pc + 7) = .ok (.athrow, 1))
    (hout : ∀ x ∈ c.exceptionTable.toList, covers x (pc + 7) = false)
    (hRframes : names.length + 3 < R.frames) (hRlocals : (rest.map fun v => v.category).sum + (13 * (names.length + 1) + 42) ≤ R.locals) (hRcells : cells + 1 ≤ R.cells) (hRslots : slots + 6 ≤ R.slots) (hlocks : meth.locks = false)
    (hx : ∀ t : State, s.vm.Alike t.vm → H.size ≤ t.heap.size → (∀ q : Nat, q < H.size → t.heap[q]? = H[q]?) → XC cls s t)
    (hf : ∀ z ∈ locs, free z.base) (hc : cells + 1 ≤ mc) (hs : slots + 6 ≤ ms) :
    W p l e R s m args below meth c H locs cells slots (vx_MQ below Qc XC args s mc ms free) (F0 m pc ls rest) := by
  intro T hT X
  have htr : e.platform.stackTraces = false := (show e.platform.stackTraces = l.stackTraces by rw [X.admits.platform]).trans hl
  have Y := vx_rebase X (R' := { frames := R.frames, locals := R.locals, cells := 1, slots := 6 }) (Nat.le_refl _) (Nat.le_refl _) hRcells hRslots
  obtain ⟨s', hA⟩ : ∃ z, z = (T.setVm s.vm).setFrames (.invoking m args :: below) := ⟨_, rfl⟩
  rw [← hA] at Y
  have hvm : s'.vm = s.vm := by rw [hA]; rfl
  have hhp : s'.heap = H := by rw [hA]; exact hT
  have hW0 : s.WarmedH s'.vm := by rw [hvm]; exact State.WarmedH.refl s
  have hat' : ∀ w ∈ vx_at0 own ic cls names, w.before args s' = true := fun w hw => vx_ot_at hW0 hvm.symm (hgood w (List.mem_cons_of_mem _ (List.mem_cons_of_mem _ hw))) (hat w hw)
  have hk' : (Cond.classLink own ik cls).before args s' = true := vx_ot_at hW0 hvm.symm (hgood _ List.mem_cons_self) hk
  have hini' : (Cond.initialized cls).before args s' = true := vx_ot_at hW0 hvm.symm (hgood _ (List.mem_cons_of_mem _ List.mem_cons_self)) hini
  have hU' : vx_Zq Bundle.tN "UNASSIGNED_STACK" Bundle.steD A s' s'.heap := by rw [hhp]; exact vx_Zq.moved hW0.alike (hU.kept hS.2.1)
  have hN' : vx_Zq Bundle.tN "SUPPRESSED_SENTINEL" Bundle.listD A s' s'.heap := by rw [hhp]; exact vx_Zq.moved hW0.alike (hN.kept hS.2.1)
  have h : ∀ w ∈ Bundle.ownAtoms0 own ic cls names, w.before args s' = true := vx_own hat' (vx_isRefq hU'.1) (vx_isRefq hN'.1) hU'.2.word hN'.2.word
  have hown' : s'.vm.findClass own = some m.cls := by rw [hvm]; exact hown
  have hins : (Cond.instantiable cls 6).before args s' = true := h _ (by simp [Bundle.ownAtoms0])
  obtain ⟨vm₁, cX, kX, hfX, hkX, -, -, X₁, st1⟩ := Y.newCold hexec (own := own) (C := cls) (index := ik) (n := 6) hown' hk' hins hini'
    (g := F0 m pc ls rest) rfl (by rw [hb]; exact d0) (Nat.le_refl _) (Nat.le_refl _)
  generalize hT1 : (T.setVm vm₁).pushCell { cls := cX, slots := kX.instanceTypes.map defaultValue, vm := .none } = T1 at X₁ st1
  have hcat : (Value.ref T.heap.size).category = 1 := rfl
  have hcellA : T1.heap[T.heap.size]? = some (freshCell cX kX) := by rw [← hT1]; exact State.heap_pushCell_size _ _
  have d3' : decode c.code (pc + 3) = .ok (.dup, 1) := by rw [hb]; exact d3
  obtain ⟨U, hsteps, hrun, hend, hW, hsame, ce, hce, hO⟩ := X₁.ctorThrow0 hexec htr (own := own) (cls := cls) (names := names) (ic := ic) hown' hcls hnames h (fun x hx => nomatch hx) hfX hkX hcellA (by rw [hhp, hT]; exact Nat.le_refl _)
    (g := { method := m, pc := pc + 4, locals := ls, stack := .ref T.heap.size :: .ref T.heap.size :: rest, locked := none }) rfl hsize rfl rfl (rest := rest) rfl
    (by rw [hb]; exact d4) (by rw [hb]; exact d7) hout hRframes (by simp only [List.map_cons, List.sum_cons, hcat]; omega) hlocks
  obtain ⟨f1, f2⟩ := vx_frame hsame
  rw [hhp] at f1 f2
  have hWs : s.WarmedH U.vm := State.WarmedH.trans hW0 hW
  have hcl : s.vm.findClass cls = some ce.cls := by
    have h9 := hO.cls
    rw [hvm] at h9
    exact h9
  have hall : s.sameButNew ({ U with vm := s.vm } : State) locs mc ms := by
    subst hA
    obtain ⟨e1, e2⟩ := hsame
    rw [State.setFrames_setFrames] at e1
    have h2 : (T.setVm s.vm).sameButNew ({ U with vm := s.vm } : State) [] (0 + 1) (0 + 6) := ⟨e1, e2⟩
    have h3 := X.same.trans h2
    rw [List.append_nil] at h3
    exact h3.mono hc hs
  refine ⟨U, ?_, .threw T.heap.size, hrun, hend, Or.inr ⟨T.heap.size, rfl, cls, ce, locs, hx U hWs.alike f1 (fun q hq => f2 q hq (fun z hz => nomatch hz)), hce, hO.vm, hcl, hWs, hall, hf⟩⟩
  refine st1 _ ?_
  show Steps p.tables e below (T1.setTop { method := m, pc := pc + 3, locals := ls, stack := .ref T.heap.size :: rest, locked := none }) _
  jvm_step X₁.here [X₁.here.top, hexec, d3', Value.category]
  exact hsteps
/-- 'throw new E("text")': new; dup; ldc; invokespecial; athrow -/
theorem vx_throwS {cc : ByteArray} {pc : Nat} (hexec : p.tables.exec = Jvm.exec) (hb : c.code = cc) (hl : l.stackTraces = false) {own cls text : String} {names : List String} {ik is ic mc ms sa : Nat} {A : Nat → Prop}
    (hown : s.vm.findClass own = some m.cls) (hcls : Bundle.fit cls = true) (hnames : ∀ n ∈ names, Bundle.fit n = true)
    (hk : (Cond.classLink own ik cls).before args s = true) (hini : (Cond.initialized cls).before args s = true) (hstr : vk_R own is text sa s) (hat : ∀ w ∈ vx_atS own ic cls names, w.before args s = true)
    (hgood : ∀ w ∈ Cond.classLink own ik cls :: Cond.initialized cls :: vx_atS own ic cls names, vx_ot w = true)
    (hU : vx_Zq Bundle.tN "UNASSIGNED_STACK" Bundle.steD A s s.heap) (hN : vx_Zq Bundle.tN "SUPPRESSED_SENTINEL" Bundle.listD A s s.heap) (hS : va_S A s.heap H locs) (hsize : ls.size = c.maxLocals)
    (d0 : decode cc pc = .ok (.new ik, 3)) (d3 : decode cc (pc + 3) = .ok (.dup, 1)) (d4 : decode cc (pc + 4) = .ok (.ldc is, 2)) (d6 : decode cc (pc + 6) = .ok (.invokespecial ic, 3)) (d9 : decode cc (pc + 9) = .ok (.athrow, 1))
    (hout : ∀ x ∈ c.exceptionTable.toList, covers x (pc + 9) = false)
    (hRframes : names.length + 3 < R.frames) (hRlocals : (rest.map fun v => v.category).sum + (13 * (names.length + 1) + 43) ≤ R.locals) (hRcells : cells + 1 ≤ R.cells) (hRslots : slots + 6 ≤ R.slots) (hlocks : meth.locks = false)
    (hx : ∀ t : State, s.vm.Alike t.vm → H.size ≤ t.heap.size → (∀ q : Nat, q < H.size → t.heap[q]? = H[q]?) → XC cls s t)
    (hf : ∀ z ∈ locs, free z.base) (hc : cells + 1 ≤ mc) (hs : slots + 6 ≤ ms) :
    W p l e R s m args below meth c H locs cells slots (vx_MQ below Qc XC args s mc ms free) (F0 m pc ls rest) := by
  intro T hT X
  have htr : e.platform.stackTraces = false := (show e.platform.stackTraces = l.stackTraces by rw [X.admits.platform]).trans hl
  have Y := vx_rebase X (R' := { frames := R.frames, locals := R.locals, cells := 1, slots := 6 }) (Nat.le_refl _) (Nat.le_refl _) hRcells hRslots
  obtain ⟨s', hA⟩ : ∃ z, z = (T.setVm s.vm).setFrames (.invoking m args :: below) := ⟨_, rfl⟩
  rw [← hA] at Y
  have hvm : s'.vm = s.vm := by rw [hA]; rfl
  have hhp : s'.heap = H := by rw [hA]; exact hT
  have hW0 : s.WarmedH s'.vm := by rw [hvm]; exact State.WarmedH.refl s
  have hat' : ∀ w ∈ vx_atS own ic cls names, w.before args s' = true := fun w hw => vx_ot_at hW0 hvm.symm (hgood w (List.mem_cons_of_mem _ (List.mem_cons_of_mem _ hw))) (hat w hw)
  have hk' : (Cond.classLink own ik cls).before args s' = true := vx_ot_at hW0 hvm.symm (hgood _ List.mem_cons_self) hk
  have hini' : (Cond.initialized cls).before args s' = true := vx_ot_at hW0 hvm.symm (hgood _ (List.mem_cons_of_mem _ List.mem_cons_self)) hini
  have hU' : vx_Zq Bundle.tN "UNASSIGNED_STACK" Bundle.steD A s' s'.heap := by rw [hhp]; exact vx_Zq.moved hW0.alike (hU.kept hS.2.1)
  have hN' : vx_Zq Bundle.tN "SUPPRESSED_SENTINEL" Bundle.listD A s' s'.heap := by rw [hhp]; exact vx_Zq.moved hW0.alike (hN.kept hS.2.1)
  have h : ∀ w ∈ Bundle.ownAtoms own ic cls names, w.before args s' = true := vx_own hat' (vx_isRefq hU'.1) (vx_isRefq hN'.1) hU'.2.word hN'.2.word
  have hown' : s'.vm.findClass own = some m.cls := by rw [hvm]; exact hown
  have hins : (Cond.instantiable cls 6).before args s' = true := h _ (by simp [Bundle.ownAtoms])
  obtain ⟨vm₁, cX, kX, hfX, hkX, -, -, X₁, st1⟩ := Y.newCold hexec (own := own) (C := cls) (index := ik) (n := 6) hown' hk' hins hini'
    (g := F0 m pc ls rest) rfl (by rw [hb]; exact d0) (Nat.le_refl _) (Nat.le_refl _)
  generalize hT1 : (T.setVm vm₁).pushCell { cls := cX, slots := kX.instanceTypes.map defaultValue, vm := .none } = T1 at X₁ st1
  have hcat : (Value.ref T.heap.size).category = 1 := rfl
  have hcellA : T1.heap[T.heap.size]? = some (freshCell cX kX) := by rw [← hT1]; exact State.heap_pushCell_size _ _
  have d3' : decode c.code (pc + 3) = .ok (.dup, 1) := by rw [hb]; exact d3
  have d4' : decode c.code (pc + 4) = .ok (.ldc is, 2) := by rw [hb]; exact d4
  have hstr' : vk_R own is text sa s' := vk_R.warm hW0 hstr
  obtain ⟨U, hsteps, hrun, hend, hW, hsame, ce, hce, hO⟩ := X₁.ctorThrowS hexec htr (own := own) (cls := cls) (names := names) (ic := ic) hown' hcls hnames h (fun x hx => nomatch hx) hfX hkX hcellA (by rw [hhp, hT]; exact Nat.le_refl _) (msg := .ref sa) rfl
    (g := { method := m, pc := pc + 6, locals := ls, stack := .ref sa :: .ref T.heap.size :: .ref T.heap.size :: rest, locked := none }) rfl hsize rfl rfl (rest := rest) rfl
    (by rw [hb]; exact d6) (by rw [hb]; exact d9) hout hRframes (by simp only [List.map_cons, List.sum_cons, hcat]; omega) hlocks
  obtain ⟨f1, f2⟩ := vx_frame hsame
  rw [hhp] at f1 f2
  have hWs : s.WarmedH U.vm := State.WarmedH.trans hW0 hW
  have hcl : s.vm.findClass cls = some ce.cls := by
    have h9 := hO.cls
    rw [hvm] at h9
    exact h9
  have hall : s.sameButNew ({ U with vm := s.vm } : State) locs mc ms := by
    subst hA
    obtain ⟨e1, e2⟩ := hsame
    rw [State.setFrames_setFrames] at e1
    have h2 : (T.setVm s.vm).sameButNew ({ U with vm := s.vm } : State) [] (0 + 1) (0 + 6) := ⟨e1, e2⟩
    have h3 := X.same.trans h2
    rw [List.append_nil] at h3
    exact h3.mono hc hs
  refine ⟨U, ?_, .threw T.heap.size, hrun, hend, Or.inr ⟨T.heap.size, rfl, cls, ce, locs, hx U hWs.alike f1 (fun q hq => f2 q hq (fun z hz => nomatch hz)), hce, hO.vm, hcl, hWs, hall, hf⟩⟩
  refine st1 _ ?_
  show Steps p.tables e below (T1.setTop { method := m, pc := pc + 3, locals := ls, stack := .ref T.heap.size :: rest, locked := none }) _
  jvm_step X₁.here [X₁.here.top, hexec, d3', Value.category]
  exact X₁.ldcString hexec (own := own) (text := text) (index := is) (a := sa) hown' hstr'.1 hstr'.2
    (g := { method := m, pc := pc + 4, locals := ls, stack := .ref T.heap.size :: .ref T.heap.size :: rest, locked := none }) rfl d4' _ hsteps
/-- 'throw new E("text")', the text by a wide index -/
theorem vx_throwSW {cc : ByteArray} {pc : Nat} (hexec : p.tables.exec = Jvm.exec) (hb : c.code = cc) (hl : l.stackTraces = false) {own cls text : String} {names : List String} {ik is ic mc ms sa : Nat} {A : Nat → Prop}
    (hown : s.vm.findClass own = some m.cls) (hcls : Bundle.fit cls = true) (hnames : ∀ n ∈ names, Bundle.fit n = true)
    (hk : (Cond.classLink own ik cls).before args s = true) (hini : (Cond.initialized cls).before args s = true) (hstr : vk_R own is text sa s) (hat : ∀ w ∈ vx_atS own ic cls names, w.before args s = true)
    (hgood : ∀ w ∈ Cond.classLink own ik cls :: Cond.initialized cls :: vx_atS own ic cls names, vx_ot w = true)
    (hU : vx_Zq Bundle.tN "UNASSIGNED_STACK" Bundle.steD A s s.heap) (hN : vx_Zq Bundle.tN "SUPPRESSED_SENTINEL" Bundle.listD A s s.heap) (hS : va_S A s.heap H locs) (hsize : ls.size = c.maxLocals)
    (d0 : decode cc pc = .ok (.new ik, 3)) (d3 : decode cc (pc + 3) = .ok (.dup, 1)) (d4 : decode cc (pc + 4) = .ok (.ldc_w is, 3)) (d7 : decode cc (pc + 7) = .ok (.invokespecial ic, 3)) (d10 : decode cc (pc + 10) = .ok (.athrow, 1))
    (hout : ∀ x ∈ c.exceptionTable.toList, covers x (pc + 10) = false)
    (hRframes : names.length + 3 < R.frames) (hRlocals : (rest.map fun v => v.category).sum + (13 * (names.length + 1) + 43) ≤ R.locals) (hRcells : cells + 1 ≤ R.cells) (hRslots : slots + 6 ≤ R.slots) (hlocks : meth.locks = false)
    (hx : ∀ t : State, s.vm.Alike t.vm → H.size ≤ t.heap.size → (∀ q : Nat, q < H.size → t.heap[q]? = H[q]?) → XC cls s t)
    (hf : ∀ z ∈ locs, free z.base) (hc : cells + 1 ≤ mc) (hs : slots + 6 ≤ ms) :
    W p l e R s m args below meth c H locs cells slots (vx_MQ below Qc XC args s mc ms free) (F0 m pc ls rest) := by
  intro T hT X
  have htr : e.platform.stackTraces = false := (show e.platform.stackTraces = l.stackTraces by rw [X.admits.platform]).trans hl
  have Y := vx_rebase X (R' := { frames := R.frames, locals := R.locals, cells := 1, slots := 6 }) (Nat.le_refl _) (Nat.le_refl _) hRcells hRslots
  obtain ⟨s', hA⟩ : ∃ z, z = (T.setVm s.vm).setFrames (.invoking m args :: below) := ⟨_, rfl⟩
  rw [← hA] at Y
  have hvm : s'.vm = s.vm := by rw [hA]; rfl
  have hhp : s'.heap = H := by rw [hA]; exact hT
  have hW0 : s.WarmedH s'.vm := by rw [hvm]; exact State.WarmedH.refl s
  have hat' : ∀ w ∈ vx_atS own ic cls names, w.before args s' = true := fun w hw => vx_ot_at hW0 hvm.symm (hgood w (List.mem_cons_of_mem _ (List.mem_cons_of_mem _ hw))) (hat w hw)
  have hk' : (Cond.classLink own ik cls).before args s' = true := vx_ot_at hW0 hvm.symm (hgood _ List.mem_cons_self) hk
  have hini' : (Cond.initialized cls).before args s' = true := vx_ot_at hW0 hvm.symm (hgood _ (List.mem_cons_of_mem _ List.mem_cons_self)) hini
  have hU' : vx_Zq Bundle.tN "UNASSIGNED_STACK" Bundle.steD A s' s'.heap := by rw [hhp]; exact vx_Zq.moved hW0.alike (hU.kept hS.2.1)
  have hN' : vx_Zq Bundle.tN "SUPPRESSED_SENTINEL" Bundle.listD A s' s'.heap := by rw [hhp]; exact vx_Zq.moved hW0.alike (hN.kept hS.2.1)
  have h : ∀ w ∈ Bundle.ownAtoms own ic cls names, w.before args s' = true := vx_own hat' (vx_isRefq hU'.1) (vx_isRefq hN'.1) hU'.2.word hN'.2.word
  have hown' : s'.vm.findClass own = some m.cls := by rw [hvm]; exact hown
  have hins : (Cond.instantiable cls 6).before args s' = true := h _ (by simp [Bundle.ownAtoms])
  obtain ⟨vm₁, cX, kX, hfX, hkX, -, -, X₁, st1⟩ := Y.newCold hexec (own := own) (C := cls) (index := ik) (n := 6) hown' hk' hins hini'
    (g := F0 m pc ls rest) rfl (by rw [hb]; exact d0) (Nat.le_refl _) (Nat.le_refl _)
  generalize hT1 : (T.setVm vm₁).pushCell { cls := cX, slots := kX.instanceTypes.map defaultValue, vm := .none } = T1 at X₁ st1
  have hcat : (Value.ref T.heap.size).category = 1 := rfl
  have hcellA : T1.heap[T.heap.size]? = some (freshCell cX kX) := by rw [← hT1]; exact State.heap_pushCell_size _ _
  have d3' : decode c.code (pc + 3) = .ok (.dup, 1) := by rw [hb]; exact d3
  have d4' : decode c.code (pc + 4) = .ok (.ldc_w is, 3) := by rw [hb]; exact d4
  have hstr' : vk_R own is text sa s' := vk_R.warm hW0 hstr
  obtain ⟨U, hsteps, hrun, hend, hW, hsame, ce, hce, hO⟩ := X₁.ctorThrowS hexec htr (own := own) (cls := cls) (names := names) (ic := ic) hown' hcls hnames h (fun x hx => nomatch hx) hfX hkX hcellA (by rw [hhp, hT]; exact Nat.le_refl _) (msg := .ref sa) rfl
    (g := { method := m, pc := pc + 7, locals := ls, stack := .ref sa :: .ref T.heap.size :: .ref T.heap.size :: rest, locked := none }) rfl hsize rfl rfl (rest := rest) rfl
    (by rw [hb]; exact d7) (by rw [hb]; exact d10) hout hRframes (by simp only [List.map_cons, List.sum_cons, hcat]; omega) hlocks
  obtain ⟨f1, f2⟩ := vx_frame hsame
  rw [hhp] at f1 f2
  have hWs : s.WarmedH U.vm := State.WarmedH.trans hW0 hW
  have hcl : s.vm.findClass cls = some ce.cls := by
    have h9 := hO.cls
    rw [hvm] at h9
    exact h9
  have hall : s.sameButNew ({ U with vm := s.vm } : State) locs mc ms := by
    subst hA
    obtain ⟨e1, e2⟩ := hsame
    rw [State.setFrames_setFrames] at e1
    have h2 : (T.setVm s.vm).sameButNew ({ U with vm := s.vm } : State) [] (0 + 1) (0 + 6) := ⟨e1, e2⟩
    have h3 := X.same.trans h2
    rw [List.append_nil] at h3
    exact h3.mono hc hs
  refine ⟨U, ?_, .threw T.heap.size, hrun, hend, Or.inr ⟨T.heap.size, rfl, cls, ce, locs, hx U hWs.alike f1 (fun q hq => f2 q hq (fun z hz => nomatch hz)), hce, hO.vm, hcl, hWs, hall, hf⟩⟩
  refine st1 _ ?_
  show Steps p.tables e below (T1.setTop { method := m, pc := pc + 3, locals := ls, stack := .ref T.heap.size :: rest, locked := none }) _
  jvm_step X₁.here [X₁.here.top, hexec, d3', Value.category]
  exact X₁.ldcStringW hexec (own := own) (text := text) (index := is) (a := sa) hown' hstr'.1 hstr'.2
    (g := { method := m, pc := pc + 4, locals := ls, stack := .ref T.heap.size :: .ref T.heap.size :: rest, locked := none }) rfl d4' _ hsteps
end Ends
section Bodies
variable {l : Launch}
theorem vx_ofW {y : MethodName} {ws ws' : List Cond} {rm : Room} {Pc : Array Value → State → Prop} {Qc : Array Value → State → Outcome → State → Prop} {XC : String → State → State → Prop} {mc ms : Nat} {free : Addr → Prop} {cc : ByteArray} {maxL : Nat} {ret : Option FieldType}
    (hy : plainName y.cls = true) (hw : ws = Cond.code y cc maxL ret :: ws')
    (body : ∀ p e s m args below meth c s₁, BodyLoose p l y (headSpec ws rm) cc maxL ret e s m args below meth c s₁ → c.maxLocals = maxL → (∀ x ∈ c.exceptionTable.toList, False) → Pc args s →
      W p l e (headSpec ws rm).room s m args below meth c s.heap [] 0 0 (vx_MQ below Qc XC args s mc ms free) (entryFrame m args maxL)) : vx_Met l y ws rm Pc Qc XC mc ms free := by
  refine MetFree.of_bodyS (code := cc) (maxLocals := maxL) (ret := ret) hy ?_ ?_
  · intro args s m h hn
    obtain ⟨meth, c, h1, h2, h3, h4, h5, h6, -, -⟩ := Cond.code_spec hn (atoms_spec (ws := ws) h _ (by rw [hw]; exact List.mem_cons_self))
    exact ⟨meth, c, h1, h2, h3, h4, h5, h6⟩
  · intro p e s m args below meth c s₁ B hml hP _
    have hh0 : s₁.heap = s.heap := by rw [B.state]; rfl
    have ht : ∀ x ∈ c.exceptionTable.toList, False := by
      obtain ⟨meth9, c9, h1, h2, -, -, -, -, h7, -⟩ := Cond.code_spec B.named (atoms_spec (ws := ws) B.pre _ (by rw [hw]; exact List.mem_cons_self))
      cases Option.some.inj (h1.symm.trans B.method)
      cases Option.some.inj (h2.symm.trans (Stand.of_body B).code)
      intro x hx
      rw [Array.isEmpty_iff.mp h7] at hx
      cases hx
    obtain ⟨t, a1, o, b1, b2, b3⟩ := body p e s m args below meth c s₁ B hml ht hP s₁ hh0 (Stand.of_body B)
    exact ⟨t, o, a1, b1, b2, b3⟩
/-- the table of a body with handlers -/
theorem vx_table {p : Program} {x y : MethodName} {S : Spec} {cc bytes : ByteArray} {maxL maxL' : Nat} {ret ret' : Option FieldType} {e : Env} {s s₁ : State} {m : MethodId} {args : Array Value} {below : List Frame} {meth : Method} {c : Code} {hh : List (Nat × Nat × Nat × Nat)}
    (B : BodyLoose p l y S cc maxL ret e s m args below meth c s₁) (h : (Cond.codeWith y bytes maxL' ret' hh).before args s = true) : c.exceptionTable.toList = tableOf hh := by
  obtain ⟨m9, meth9, c9, hn9, h1, h2, -, -, h6, -⟩ := Cond.codeWith_spec h
  cases Option.some.inj (hn9.symm.trans B.named)
  cases Option.some.inj (h1.symm.trans B.method)
  cases Option.some.inj (h2.symm.trans (Stand.of_body B).code)
  rw [← h6, table_eq]
end Bodies
end VXA
/-! ===== END ===== -/
/-! ===== BEGIN a static call of a method with an exception table ===== -/
section VXS
variable {p : Program} {l : Launch} {e : Env} {R : Room} {s : State} {m : MethodId} {args : Array Value} {below : List Frame} {meth : Method} {c : Code} {T : State} {H : Heap} {locs : List Loc} {cells slots : Nat}
abbrev vx_CSW (R : Room) (s : State) (args : Array Value) (own : String) (index : Nat) (y : MethodName) (bytes : ByteArray) (maxL : Nat) (ret : Option FieldType) (hh : List (Nat × Nat × Nat × Nat)) (ws : List Cond) (rm : Room) (mc ms n : Nat) : Prop :=
  (rm.cells = mc ∧ rm.slots = ms ∧ rm.frames + 1 ≤ R.frames ∧ 8 + (maxL + 11) + rm.locals ≤ R.locals ∧ (∀ w ∈ ws, ∀ (a' : Array Value) (U : State), s.WarmedH U.vm → w.before a' U = true) ∧ Cond.codeWith y bytes maxL ret hh ∈ ws) ∧
  (Cond.codeWith y bytes maxL ret hh).before args s = true ∧ (Cond.initialized y.cls).before args s = true ∧ (y.cls ≠ "java/lang/invoke/MethodHandle" ∧ y.cls ≠ "java/lang/invoke/VarHandle") ∧
  (∀ sig, parseMethodDescriptor y.desc = some sig → n = sig.parameters.length) ∧ (Cond.methodLink own index y).before args s = true ∧ (Cond.static y).before args s = true
theorem vx_cwSW {own : String} {index maxL mc ms : Nat} {y : MethodName} {bytes : ByteArray} {ret : Option FieldType} {hh : List (Nat × Nat × Nat × Nat)} {Ts ws ws' : List Cond} {rm : Room} (n : Nat) (ht : ∀ w ∈ Ts, w.before args s = true) (hT : GoodIn Ts (va_wsS own index y ws)) (hw : ws = Cond.codeWith y bytes maxL ret hh :: ws') (hrc : rm.cells = mc) (hrs : rm.slots = ms)
    (hd : y.cls ≠ "java/lang/invoke/MethodHandle" ∧ y.cls ≠ "java/lang/invoke/VarHandle" ∧ (parseMethodDescriptor y.desc).map (fun d => d.parameters.length) = some n) (hR : rm.frames + 1 ≤ R.frames ∧ 8 + (maxL + 11) + rm.locals ≤ R.locals) :
    vx_CSW R s args own index y bytes maxL ret hh ws rm mc ms n := by
  have ok : ∀ w ∈ va_wsS own index y ws, w.before args s = true := fun w h => ht w (hT w h).1
  have hG : GoodIn Ts ws := fun w h => hT w (by unfold va_wsS; exact List.mem_append_right _ h)
  have hc : Cond.codeWith y bytes maxL ret hh ∈ ws := by rw [hw]; exact List.mem_cons_self
  refine ⟨⟨hrc, hrs, hR.1, hR.2, pay_in ht hG, hc⟩, ht _ (hG _ hc).1, ok _ (by simp [va_wsS]), ⟨hd.1, hd.2.1⟩, fun sig h => ?_, ok _ (by simp [va_wsS]), ok _ (by simp [va_wsS])⟩
  have h2 := hd.2.2
  rw [h] at h2
  exact (Option.some.inj h2).symm
theorem vx_callSW (X : Stand p l e R s m args below meth c T locs cells slots) (hexec : p.tables.exec = Jvm.exec) {own : String} {index : Nat} {y : MethodName} {bytes : ByteArray} {maxL : Nat} {ret : Option FieldType} {hh : List (Nat × Nat × Nat × Nat)}
    (hown : s.vm.findClass own = some m.cls) (hlink : (Cond.methodLink own index y).before args s = true) (hstat : (Cond.static y).before args s = true) (hinit : (Cond.initialized y.cls).before args s = true)
    (hcode : (Cond.codeWith y bytes maxL ret hh).before args s = true) (hy : y.cls ≠ "java/lang/invoke/MethodHandle" ∧ y.cls ≠ "java/lang/invoke/VarHandle")
    {W9 : Nat} {Pre : Pt → Array Value → Prop} {Post : Pt → Array Value → Option Value → Pt → Prop} (hK : Back l R p e below s args y 3 W9 Pre Post)
    {g : JFrame} (hg : g.method = m) (hsize : g.locals.size = c.maxLocals) {argsL rest : List Value} (hlen : ∀ sig, parseMethodDescriptor y.desc = some sig → argsL.length = sig.parameters.length)
    (hstack : g.stack = argsL.reverse ++ rest) (hW : 2 * g.monitorRoom + (rest.map fun v => v.category).sum ≤ W9) (hdg : decode c.code g.pc = .ok (.invokestatic index, 3))
    (hpre : ∀ vm₁, s.WarmedH vm₁ → Pre ⟨T.setVm vm₁, locs, cells, slots⟩ argsL.toArray) :
    ∃ (v : Option Value) (vm₁ : Vm) (B : Pt), s.WarmedH vm₁ ∧ Stand p l e R s m args below meth c B.U B.locs B.cells B.slots ∧ Post ⟨T.setVm vm₁, locs, cells, slots⟩ argsL.toArray v B ∧
      ∀ target, Steps p.tables e below (B.U.setTop { g with pc := g.pc + 3, stack := v.toList ++ rest }) target → Steps p.tables e below (T.setTop g) target := by
  obtain ⟨mk, methM, cM, hnamed, hmethM, -, -, -, -, -, -, hsigM⟩ := Cond.codeWith_spec hcode
  have hstatic : methM.isStatic = true := Cond.static_spec hnamed hmethM hstat
  obtain ⟨kP, hkP, -⟩ := className_of_methodNamed hnamed
  have hinitP : kP.init = .initialized := Cond.initialized_spec (findClass_of_methodNamed hnamed) hkP hinit
  obtain ⟨vm₁, X₁, hstep₁⟩ := X.invokestatic hexec hown hlink hnamed hmethM hstatic hkP hinitP hy (g := g) hg (argsL := argsL) (rest := rest) (hlen _ hsigM) hstack hdg
  obtain ⟨v, B, X', hpost, hsteps⟩ := hK m meth c ⟨T.setVm vm₁, locs, cells, slots⟩ { g with stack := rest } (.invokestatic index) mk argsL.toArray X₁ hg hsize hdg hW (X₁.named hnamed) (hpre vm₁ X₁.warmed)
  exact ⟨v, vm₁, B, X₁.warmed, X', hpost, fun target h => hstep₁ _ fun acts => by rw [doInvoke_state]; exact hsteps.trans h⟩
theorem vx_runSW {y : MethodName} {bytes cc : ByteArray} {maxL nL mc ms n index : Nat} {ret : Option FieldType} {hh : List (Nat × Nat × Nat × Nat)} {ws : List Cond} {rm : Room} {Pc : Array Value → State → Prop} {Qc : Array Value → State → Outcome → State → Prop} {free : Addr → Prop} {Ts : List Cond} {own : String} {As rest : List Value} {g : JFrame}
    (S : CallFix p m c cc nL s args Ts own) (hM : Met l y ws rm Pc Qc mc ms free) (cw : vx_CSW R s args own index y bytes maxL ret hh ws rm mc ms n) (hp : PreS s H Pc As)
    (hg : g.method = m) (hn : As.length = n) (hsize : g.locals.size = nL) (hstack : g.stack = As.reverse ++ rest) (hW : 2 * g.monitorRoom + (rest.map fun v => v.category).sum ≤ 8) (hdg : decode cc g.pc = .ok (.invokestatic index, 3)) (hf : cells + mc ≤ R.cells ∧ slots + ms ≤ R.slots) :
    va_Run p l e R s m args below meth c H locs cells slots mc ms g rest (Qc As.toArray) (free) := by
  obtain ⟨⟨hrc, hrs, hfr, hlo, hws, hcw⟩, hcode, hini, hy, hlen, hl, hstt⟩ := cw
  have hK : Back l R p e below s args y 3 8 (PreOf R mc ms Pc) (PostOf Qc mc ms free) := va_backW (hh := hh) (bytes := bytes) (maxL := maxL) (ret := ret) hM hp.1 hrc hrs hfr hlo hws hcw (fun a' U hW => word_at hW (Or.inl (by first | rfl | simp [Cond.onTables, Cond.keeps, Cond.steady])) hini)
  obtain ⟨hx, hb, hml, ho, -⟩ := S
  intro T hT X
  obtain ⟨v, vm₁, ⟨U', l2, c2, s2⟩, hW₁, X', ⟨g', mk, t, L, e1, e2, hq, h1, hL, h2, h3⟩, st⟩ := vx_callSW X hx (hh := hh) (bytes := bytes) (maxL := maxL) (ret := ret) ho hl hstt hini hcode hy hK hg (hsize.trans hml.symm) (argsL := As) (rest := rest) (fun sig h => hn.trans (hlen sig h)) hstack hW (by rw [hb]; exact hdg)
    (fun vm₁ hW₁ => ⟨hf.1, hf.2, hp.2 (T.setVm vm₁) hT hW₁⟩)
  dsimp only [Pt.U, Pt.locs, Pt.cells, Pt.slots] at X' e1 e2 h1 h2 h3 st
  subst h1; subst h2; subst h3
  exact ⟨v, (T.setVm vm₁).calling g' mk As.toArray, t, U', L, hT, X', hL, e1, e2, hq, st⟩
/-- not caught here, past rows that name other classes: it goes on to the caller -/
theorem vx_outP {p : Program} {l : Launch} {e : Env} {R : Room} {s : State} {m : MethodId} {args : Array Value} {below : List Frame} {meth : Method} {c : Code} {H : Heap} {locs : List Loc} {cells slots : Nat} {free : Addr → Prop} {ls : Array Slot} {rest : List Value} {Qc : Array Value → State → Outcome → State → Prop} {XC : String → State → State → Prop}
    {pc : Nat} {own E : String} {ce : Cell} {q : Addr} {mc ms : Nat} (hown : s.vm.findClass own = some m.cls) (hlocks : meth.locks = false)
    (hpass : ∀ z ∈ c.exceptionTable.toList, covers z pc = false ∨ (z.catchType ≠ 0 ∧ ∃ nm : String, (Cond.classLink own z.catchType nm).before args s = true ∧ va_Nc E nm s)) (hcell : H[q]? = some ce) (hv : ce.vm = .none) (hcl : s.vm.findClass E = some ce.cls)
    (hx : ∀ t : State, t.heap = H → s.vm.Alike t.vm → XC E s t) (hf : ∀ z ∈ locs, free z.base) (hc : cells ≤ mc) (hs : slots ≤ ms) :
    vx_W p l e R s m args below meth c H locs cells slots (vx_MQ below Qc XC args s mc ms free) (F0 m pc ls rest) q := by
  intro T hT X
  have hpl : e.platform.magicAccessors = ({} : Platform).magicAccessors := by rw [X.admits.platform]
  obtain ⟨vm', hW', X', st⟩ := X.outThrough hlocks q (g := F0 m pc ls rest) rfl rfl rfl (cell := ce) (by rw [hT]; exact hcell) (by rw [hv]; rfl)
    (by obtain ⟨k9, h9, -⟩ := Vm.findClass_spec hcl; exact ⟨k9, h9⟩) (fun z hz => by
      rcases hpass z hz with h | ⟨hz0, nm, hl1, hn1⟩
      · exact Or.inl h
      · obtain ⟨c6, hc6, hcl6⟩ := Cond.classLink_spec hown hl1 e.platform hpl
        obtain ⟨a8, b8, h1, h2, h3⟩ := hn1
        cases Option.some.inj (h1.symm.trans hcl)
        cases Option.some.inj (h2.symm.trans hc6)
        exact Or.inr ⟨hz0, _, hcl6, h3⟩)
  obtain ⟨g₀, hfr⟩ := X'.frames_eq
  have hcell9 : ((T.setVm vm').setFrames (.throwing q :: below)).heap[q]? = some ce := by
    show T.heap[q]? = some ce
    rw [hT]; exact hcell
  have hend : Ended ((T.setVm vm').setFrames (.throwing q :: below)) below (.threw q) := State.frames_setFrames _ (State.cur_lt_of_frames hfr)
  refine ⟨(T.setVm vm').setFrames (.throwing q :: below), ?_, .threw q, X'.here.running, hend, Or.inr ⟨q, rfl, E, ce, locs, hx _ hT (X'.ends _).1.alike, hcell9, hv, hcl, (X'.ends _).1, (X'.ends _).2.mono hc hs, hf⟩⟩
  rw [X.pushThrowing_eq]
  exact st
/-- a thing of a world lies in the heap -/
theorem vx_lt {D : va_G} {cl : List vw_C} {ws : va_W} {H1 : Heap} (h : va_P D cl ws H1) {k : Nat} {q : Nat × va_E} (hk : ws[k]? = some q) : q.1 < H1.size := (h k q hk).lt
end VXS
/-! ===== END ===== -/
/-! ===== BEGIN methods with a table of their own: called by a name, returning or throwing ===== -/
section VXH
/-! vx_backW, vx_callVX, vx_callSX, vx_callVW, vx_runVW, vx_runVX, vx_runSX, vx_ofWH follow the same proofs as their sisters above (Free/Laws.lean, Shelf42/LK1.lean); vx_outP calls Shelf42/NT130.lean (outThrough). -/
section
variable {l : Launch} {R : Room} {p : Program} {e : Env} {below : List Frame} {s : State} {sargs : Array Value} {y : MethodName} {len W9 : Nat}
theorem vx_backW {ws : List Cond} {rm : Room} {Pc : Array Value → State → Prop} {Qc : Array Value → State → Outcome → State → Prop} {XC : String → State → State → Prop} {mc ms : Nat} {free : Addr → Prop} {bytes : ByteArray} {maxL : Nat} {ret : Option FieldType} {hh : List (Nat × Nat × Nat × Nat)}
    (hM : vx_Met l y ws rm Pc Qc XC mc ms free) (hblind : FrameBlind Pc) (hrc : rm.cells = mc) (hrs : rm.slots = ms)
    (hframes : rm.frames + 1 ≤ R.frames) (hlocals : W9 + (maxL + 11) + rm.locals ≤ R.locals)
    (hws : ∀ w ∈ ws, ∀ a' U, s.WarmedH U.vm → w.before a' U = true) (hcode : Cond.codeWith y bytes maxL ret hh ∈ ws) (hinit : ∀ a' U, s.WarmedH U.vm → (Cond.initialized y.cls).before a' U = true) :
    vx_Back l R p e below s sargs y len W9 (PreOf R mc ms Pc) (PostOf Qc mc ms free) (vx_Post XC mc ms free) := by
  intro m meth c A g ig mk a X hg hsize hdg hW hn hp
  have h1 : (headSpec ws rm).pre.before a A.U = true := atoms_intro fun w hw => hws w hw _ _ X.warmed
  have h2 : (Cond.codeWith y bytes maxL ret hh).before a A.U = true := hws _ hcode _ _ X.warmed
  have h3 : (Cond.initialized y.cls).before a A.U = true := hinit _ _ X.warmed
  have h4 : A.cells + (headSpec ws rm).room.cells ≤ R.cells := by rw [show (headSpec ws rm).room.cells = mc from hrc]; exact hp.1
  have h5 : A.slots + (headSpec ws rm).room.slots ≤ R.slots := by rw [show (headSpec ws rm).room.slots = ms from hrs]; exact hp.2.1
  have hPc : Pc a (A.U.calling g mk a) := hblind _ _ _ _ hp.2.2
  obtain ⟨U, Ls, c0, s0⟩ := A
  dsimp only [Pt.U, Pt.locs, Pt.cells, Pt.slots] at h1 h2 h3 h4 h5 X hn hPc ⊢
  obtain ⟨m9, methY, cY, hn9, hmY, hcY, -, hlY, -⟩ := Cond.codeWith_spec h2
  cases Option.some.inj (hn9.symm.trans hn)
  obtain ⟨kY, hkY, -⟩ := className_of_methodNamed hn
  have hinitY : kY.init = .initialized := Cond.initialized_spec (findClass_of_methodNamed hn) hkY h3
  have h : At U g.method c below := by rw [hg]; exact X.here
  have hlocals9 : W9 + (maxL + 11) + (headSpec ws rm).room.locals ≤ R.locals := hlocals
  have happ : (headSpec ws rm).appliesLoose y e.platform (U.calling g mk a) = true :=
    Spec.appliesLoose_calling (g := g) h hdg hn hkY hinitY
      (X.room_calling (g := g) (R' := (headSpec ws rm).room) hsize hmY hcY hframes (by rw [hlY]; omega) h4 h5) h1
  obtain ⟨mid, hmid⟩ := h.above
  have hfr : (U.setTop g).frames = (.java g :: mid) ++ below := by rw [State.frames_setTop' g h.top, hmid]; rfl
  obtain ⟨o, s₂, hsteps, -, hend, hq⟩ := Steps.callFree hM p X.admits X.cas X.clock (acts := []) hfr happ hPc trivial
  have hq' : vx_Q Qc XC mc ms free a (U.calling g mk a) o s₂ := hq
  rw [State.frames_setTop' g h.top] at hend
  obtain ⟨g₀, hg0⟩ := Option.isSome_iff_exists.mp h.top
  obtain ⟨r, hr⟩ := State.topJava?_eq_some.mp hg0
  have hr' : (({ U with heap := s₂.heap, slotsUsed := s₂.slotsUsed } : State).setVm s₂.vm).frames = .java g₀ :: r := hr
  rcases hq' with ⟨hqc, L, hfe, hL⟩ | ⟨q, rfl, E, ce, L, hx, hce, hcv, hcl, hW₂, hsm, hL⟩
  · obtain ⟨⟨v, rfl⟩, hW₂, e2, q2, q3, q4, q5, q6⟩ := id hfe
    have e3 : s₂ = ({ (U.calling g mk a).setFrames s₂.frames with heap := s₂.heap, slotsUsed := s₂.slotsUsed } : State).setVm s₂.vm := by
      have : s₂ = ({ s₂ with vm := (U.calling g mk a).vm } : State).setVm s₂.vm := rfl
      rw [e2] at this
      exact this
    obtain ⟨c₂, i₂, len₂, hc₂, hd₂, hf₂⟩ := hend
    have hW' : U.WarmedH s₂.vm := hW₂
    have hcc : c₂ = c := by
      have h1 : s₂.code? g.method = U.code? g.method := by
        rw [State.code?_eq, State.code?_eq, hW'.alike.method?]
      exact Option.some.inj (hc₂.symm.trans (h1.trans h.code))
    subst hcc
    have hlen : len₂ = len := by rw [hdg] at hd₂; cases hd₂; rfl
    subst hlen
    have hs₂ : s₂ = (({ U with heap := s₂.heap, slotsUsed := s₂.slotsUsed } : State).setVm s₂.vm).setTop { g with pc := g.pc + len₂, stack := v.toList ++ g.stack } := by
      refine e3.trans ?_
      rw [hf₂, State.calling_eq h.top, State.setFrames_setFrames, State.setTop_of_frames _ hr', hr]
      rfl
    have hsame : U.sameButNew ({ U with heap := s₂.heap, slotsUsed := s₂.slotsUsed } : State) L mc ms := by
      refine ⟨?_, q2, q3, q4, q5, q6⟩
      obtain ⟨t, ht, -⟩ := State.frames_cons hr
      show ({ U with heap := s₂.heap, slotsUsed := s₂.slotsUsed } : State) = { U.setFrames U.frames with heap := s₂.heap, slotsUsed := s₂.slotsUsed }
      rw [State.setFrames_self ht]
    subst hg
    refine Or.inl ⟨v, ⟨(({ U with heap := s₂.heap, slotsUsed := s₂.slotsUsed } : State).setVm s₂.vm), Ls ++ L, c0 + mc, s0 + ms⟩,
      ⟨X.admits, X.cas, X.clock, X.frames, X.room, X.hears, X.method, X.code, (X.here.setHeapUsed s₂.heap s₂.slotsUsed).setVm hW'.alike, X.tail, State.WarmedH.trans X.warmed hW', X.limits, X.bytes, X.same.trans (hsame.setVm s.vm)⟩,
      ⟨g, mk, s₂, L, rfl, rfl, hqc, rfl, hL, rfl, rfl⟩, ?_⟩
    show Steps p.tables e below _ ((({ U with heap := s₂.heap, slotsUsed := s₂.slotsUsed } : State).setVm s₂.vm).setTop { g with pc := g.pc + len₂, stack := v.toList ++ g.stack })
    rw [← hs₂]
    exact hsteps
  · obtain ⟨e2, q2, q3, q4, q5, q6⟩ := id hsm
    have e3 : s₂ = ({ (U.calling g mk a).setFrames s₂.frames with heap := s₂.heap, slotsUsed := s₂.slotsUsed } : State).setVm s₂.vm := by
      have : s₂ = ({ s₂ with vm := (U.calling g mk a).vm } : State).setVm s₂.vm := rfl
      rw [e2] at this
      exact this
    have hf₂ : s₂.frames = .throwing q :: .java g :: U.frames.tail := hend
    have hW' : U.WarmedH s₂.vm := hW₂
    have hs₂ : s₂ = ((({ U with heap := s₂.heap, slotsUsed := s₂.slotsUsed } : State).setVm s₂.vm).setTop g).pushFrame (.throwing q) := by
      refine e3.trans ?_
      rw [hf₂, State.calling_eq h.top, State.setFrames_setFrames, State.pushFrame, State.frames_setTop _ hr', State.setTop_of_frames _ hr', State.setFrames_setFrames, hr]
      rfl
    have hsame : U.sameButNew ({ U with heap := s₂.heap, slotsUsed := s₂.slotsUsed } : State) L mc ms := by
      refine ⟨?_, q2, q3, q4, q5, q6⟩
      obtain ⟨t, ht, -⟩ := State.frames_cons hr
      show ({ U with heap := s₂.heap, slotsUsed := s₂.slotsUsed } : State) = { U.setFrames U.frames with heap := s₂.heap, slotsUsed := s₂.slotsUsed }
      rw [State.setFrames_self ht]
    subst hg
    refine Or.inr ⟨q, ⟨(({ U with heap := s₂.heap, slotsUsed := s₂.slotsUsed } : State).setVm s₂.vm), Ls ++ L, c0 + mc, s0 + ms⟩,
      ⟨X.admits, X.cas, X.clock, X.frames, X.room, X.hears, X.method, X.code, (X.here.setHeapUsed s₂.heap s₂.slotsUsed).setVm hW'.alike, X.tail, State.WarmedH.trans X.warmed hW', X.limits, X.bytes, X.same.trans (hsame.setVm s.vm)⟩,
      ⟨g, mk, s₂, L, E, ce, rfl, rfl, hx, hce, hcv, hcl, rfl, hL, rfl, rfl⟩, ?_⟩
    show Steps p.tables e below _ (((({ U with heap := s₂.heap, slotsUsed := s₂.slotsUsed } : State).setVm s₂.vm).setTop g).pushFrame (.throwing q))
    rw [← hs₂]
    exact hsteps
end
variable {p : Program} {l : Launch} {e : Env} {R : Room} {s : State} {m : MethodId} {args : Array Value} {below : List Frame} {meth : Method} {c : Code} {T : State} {H : Heap} {locs : List Loc} {cells slots : Nat}
theorem vx_callVX (X : Stand p l e R s m args below meth c T locs cells slots) (hexec : p.tables.exec = Jvm.exec) {own C : String} {index : Nat} {y : MethodName} {bytes : ByteArray} {maxL : Nat} {ret : Option FieldType} {hh : List (Nat × Nat × Nat × Nat)}
    (hown : s.vm.findClass own = some m.cls) (hlink : (Cond.methodLink own index y).before args s = true) (hinst : (Cond.instanceMethod y).before args s = true) (hsel : (Cond.selects C y y).before args s = true)
    (hcode : (Cond.codeWith y bytes maxL ret hh).before args s = true) (hy : y.cls ≠ "java/lang/invoke/MethodHandle" ∧ y.cls ≠ "java/lang/invoke/VarHandle")
    {W9 : Nat} {Pre : Pt → Array Value → Prop} {Post : Pt → Array Value → Option Value → Pt → Prop} {PostX : Pt → Array Value → Addr → Pt → Prop} (hK : vx_Back l R p e below s args y 3 W9 Pre Post PostX)
    {b : Addr} {cellB : Cell} (hcell : T.heap[b]? = some cellB) (hobj : cellB.vm.isStatics = false) (hcls : s.vm.findClass C = some cellB.cls)
    {g : JFrame} (hg : g.method = m) (hsize : g.locals.size = c.maxLocals) {argsL rest : List Value} (hlen : ∀ sig, parseMethodDescriptor y.desc = some sig → argsL.length = sig.parameters.length)
    (hstack : g.stack = argsL.reverse ++ .ref b :: rest) (hW : 2 * g.monitorRoom + (rest.map fun v => v.category).sum ≤ W9) (hdg : decode c.code g.pc = .ok (.invokevirtual index, 3))
    (hpre : ∀ vm₁, s.WarmedH vm₁ → Pre ⟨T.setVm vm₁, locs, cells, slots⟩ (Value.ref b :: argsL).toArray) :
    (∃ (v : Option Value) (vm₁ : Vm) (B : Pt), s.WarmedH vm₁ ∧ Stand p l e R s m args below meth c B.U B.locs B.cells B.slots ∧ Post ⟨T.setVm vm₁, locs, cells, slots⟩ (Value.ref b :: argsL).toArray v B ∧
      ∀ target, Steps p.tables e below (B.U.setTop { g with pc := g.pc + 3, stack := v.toList ++ rest }) target → Steps p.tables e below (T.setTop g) target) ∨
    (∃ (q : Addr) (vm₁ : Vm) (B : Pt), s.WarmedH vm₁ ∧ Stand p l e R s m args below meth c B.U B.locs B.cells B.slots ∧ PostX ⟨T.setVm vm₁, locs, cells, slots⟩ (Value.ref b :: argsL).toArray q B ∧
      Steps p.tables e below (T.setTop g) ((B.U.setTop { g with stack := rest }).pushFrame (.throwing q))) := by
  obtain ⟨mk, methM, hnamed, hmethM, hstM, habM⟩ := Cond.instanceMethod_spec hinst
  obtain ⟨m8, methM', cM, hn8, hmethM', -, -, -, -, -, -, hsigM⟩ := Cond.codeWith_spec hcode
  cases Option.some.inj (hn8.symm.trans hnamed)
  cases hmethM.symm.trans hmethM'
  obtain ⟨c2, r2, m2, q1, q2, q3, q4, kP, hkP, hkPi⟩ := Cond.selects_spec hsel
  cases hcls.symm.trans q1
  cases (State.methodFound?_of_named hnamed hy).symm.trans q2
  cases hnamed.symm.trans q3
  have hselP : selectMethod e.platform s.vm cellB.cls mk = .method mk := by rw [Launch.admits_selectMethod X.admits]; exact q4
  obtain ⟨vm₁, X₁, hstep₁⟩ := X.invokevirtual hexec hown hlink hnamed hmethM hstM hkP hkPi hy (a := b) (cell := cellB) hcell
    (fun z h => by rw [h] at hobj; cases hobj) hselP hmethM habM hkP hkPi (g := g) hg (argsL := argsL) (rest := rest) (hlen _ hsigM) hstack hdg
  rcases hK m meth c ⟨T.setVm vm₁, locs, cells, slots⟩ { g with stack := rest } (.invokevirtual index) mk (Value.ref b :: argsL).toArray X₁ hg hsize hdg hW (X₁.named hnamed) (hpre vm₁ X₁.warmed) with ⟨v, B, X', hpost, hsteps⟩ | ⟨q, B, X', hpost, hsteps⟩
  · exact Or.inl ⟨v, vm₁, B, X₁.warmed, X', hpost, fun target h => hstep₁ _ fun acts => by rw [doInvoke_state]; exact hsteps.trans h⟩
  · exact Or.inr ⟨q, vm₁, B, X₁.warmed, X', hpost, hstep₁ _ fun acts => by rw [doInvoke_state]; exact hsteps⟩
theorem vx_callSX (X : Stand p l e R s m args below meth c T locs cells slots) (hexec : p.tables.exec = Jvm.exec) {own : String} {index : Nat} {y : MethodName} {bytes : ByteArray} {maxL : Nat} {ret : Option FieldType} {hh : List (Nat × Nat × Nat × Nat)}
    (hown : s.vm.findClass own = some m.cls) (hlink : (Cond.methodLink own index y).before args s = true) (hstat : (Cond.static y).before args s = true) (hinit : (Cond.initialized y.cls).before args s = true)
    (hcode : (Cond.codeWith y bytes maxL ret hh).before args s = true) (hy : y.cls ≠ "java/lang/invoke/MethodHandle" ∧ y.cls ≠ "java/lang/invoke/VarHandle")
    {W9 : Nat} {Pre : Pt → Array Value → Prop} {Post : Pt → Array Value → Option Value → Pt → Prop} {PostX : Pt → Array Value → Addr → Pt → Prop} (hK : vx_Back l R p e below s args y 3 W9 Pre Post PostX)
    {g : JFrame} (hg : g.method = m) (hsize : g.locals.size = c.maxLocals) {argsL rest : List Value} (hlen : ∀ sig, parseMethodDescriptor y.desc = some sig → argsL.length = sig.parameters.length)
    (hstack : g.stack = argsL.reverse ++ rest) (hW : 2 * g.monitorRoom + (rest.map fun v => v.category).sum ≤ W9) (hdg : decode c.code g.pc = .ok (.invokestatic index, 3))
    (hpre : ∀ vm₁, s.WarmedH vm₁ → Pre ⟨T.setVm vm₁, locs, cells, slots⟩ argsL.toArray) :
    (∃ (v : Option Value) (vm₁ : Vm) (B : Pt), s.WarmedH vm₁ ∧ Stand p l e R s m args below meth c B.U B.locs B.cells B.slots ∧ Post ⟨T.setVm vm₁, locs, cells, slots⟩ argsL.toArray v B ∧
      ∀ target, Steps p.tables e below (B.U.setTop { g with pc := g.pc + 3, stack := v.toList ++ rest }) target → Steps p.tables e below (T.setTop g) target) ∨
    (∃ (q : Addr) (vm₁ : Vm) (B : Pt), s.WarmedH vm₁ ∧ Stand p l e R s m args below meth c B.U B.locs B.cells B.slots ∧ PostX ⟨T.setVm vm₁, locs, cells, slots⟩ argsL.toArray q B ∧
      Steps p.tables e below (T.setTop g) ((B.U.setTop { g with stack := rest }).pushFrame (.throwing q))) := by
  obtain ⟨mk, methM, cM, hnamed, hmethM, -, -, -, -, -, -, hsigM⟩ := Cond.codeWith_spec hcode
  have hstatic : methM.isStatic = true := Cond.static_spec hnamed hmethM hstat
  obtain ⟨kP, hkP, -⟩ := className_of_methodNamed hnamed
  have hinitP : kP.init = .initialized := Cond.initialized_spec (findClass_of_methodNamed hnamed) hkP hinit
  obtain ⟨vm₁, X₁, hstep₁⟩ := X.invokestatic hexec hown hlink hnamed hmethM hstatic hkP hinitP hy (g := g) hg (argsL := argsL) (rest := rest) (hlen _ hsigM) hstack hdg
  rcases hK m meth c ⟨T.setVm vm₁, locs, cells, slots⟩ { g with stack := rest } (.invokestatic index) mk argsL.toArray X₁ hg hsize hdg hW (X₁.named hnamed) (hpre vm₁ X₁.warmed) with ⟨v, B, X', hpost, hsteps⟩ | ⟨q, B, X', hpost, hsteps⟩
  · exact Or.inl ⟨v, vm₁, B, X₁.warmed, X', hpost, fun target h => hstep₁ _ fun acts => by rw [doInvoke_state]; exact hsteps.trans h⟩
  · exact Or.inr ⟨q, vm₁, B, X₁.warmed, X', hpost, hstep₁ _ fun acts => by rw [doInvoke_state]; exact hsteps⟩
theorem vx_callVW (X : Stand p l e R s m args below meth c T locs cells slots) (hexec : p.tables.exec = Jvm.exec) {own C : String} {index : Nat} {y : MethodName} {bytes : ByteArray} {maxL : Nat} {ret : Option FieldType} {hh : List (Nat × Nat × Nat × Nat)}
    (hown : s.vm.findClass own = some m.cls) (hlink : (Cond.methodLink own index y).before args s = true) (hinst : (Cond.instanceMethod y).before args s = true) (hsel : (Cond.selects C y y).before args s = true)
    (hcode : (Cond.codeWith y bytes maxL ret hh).before args s = true) (hy : y.cls ≠ "java/lang/invoke/MethodHandle" ∧ y.cls ≠ "java/lang/invoke/VarHandle")
    {W9 : Nat} {Pre : Pt → Array Value → Prop} {Post : Pt → Array Value → Option Value → Pt → Prop} (hK : Back l R p e below s args y 3 W9 Pre Post)
    {b : Addr} {cellB : Cell} (hcell : T.heap[b]? = some cellB) (hobj : cellB.vm.isStatics = false) (hcls : s.vm.findClass C = some cellB.cls)
    {g : JFrame} (hg : g.method = m) (hsize : g.locals.size = c.maxLocals) {argsL rest : List Value} (hlen : ∀ sig, parseMethodDescriptor y.desc = some sig → argsL.length = sig.parameters.length)
    (hstack : g.stack = argsL.reverse ++ .ref b :: rest) (hW : 2 * g.monitorRoom + (rest.map fun v => v.category).sum ≤ W9) (hdg : decode c.code g.pc = .ok (.invokevirtual index, 3))
    (hpre : ∀ vm₁, s.WarmedH vm₁ → Pre ⟨T.setVm vm₁, locs, cells, slots⟩ (Value.ref b :: argsL).toArray) :
    ∃ (v : Option Value) (vm₁ : Vm) (B : Pt), s.WarmedH vm₁ ∧ Stand p l e R s m args below meth c B.U B.locs B.cells B.slots ∧ Post ⟨T.setVm vm₁, locs, cells, slots⟩ (Value.ref b :: argsL).toArray v B ∧
      ∀ target, Steps p.tables e below (B.U.setTop { g with pc := g.pc + 3, stack := v.toList ++ rest }) target → Steps p.tables e below (T.setTop g) target := by
  obtain ⟨mk, methM, hnamed, hmethM, hstM, habM⟩ := Cond.instanceMethod_spec hinst
  obtain ⟨m8, methM', cM, hn8, hmethM', -, -, -, -, -, -, hsigM⟩ := Cond.codeWith_spec hcode
  cases Option.some.inj (hn8.symm.trans hnamed)
  cases hmethM.symm.trans hmethM'
  obtain ⟨c2, r2, m2, q1, q2, q3, q4, kP, hkP, hkPi⟩ := Cond.selects_spec hsel
  cases hcls.symm.trans q1
  cases (State.methodFound?_of_named hnamed hy).symm.trans q2
  cases hnamed.symm.trans q3
  have hselP : selectMethod e.platform s.vm cellB.cls mk = .method mk := by rw [Launch.admits_selectMethod X.admits]; exact q4
  obtain ⟨vm₁, X₁, hstep₁⟩ := X.invokevirtual hexec hown hlink hnamed hmethM hstM hkP hkPi hy (a := b) (cell := cellB) hcell
    (fun z h => by rw [h] at hobj; cases hobj) hselP hmethM habM hkP hkPi (g := g) hg (argsL := argsL) (rest := rest) (hlen _ hsigM) hstack hdg
  obtain ⟨v, B, X', hpost, hsteps⟩ := hK m meth c ⟨T.setVm vm₁, locs, cells, slots⟩ { g with stack := rest } (.invokevirtual index) mk (Value.ref b :: argsL).toArray X₁ hg hsize hdg hW (X₁.named hnamed) (hpre vm₁ X₁.warmed)
  exact ⟨v, vm₁, B, X₁.warmed, X', hpost, fun target h => hstep₁ _ fun acts => by rw [doInvoke_state]; exact hsteps.trans h⟩
abbrev vx_CVW (R : Room) (s : State) (args : Array Value) (own C : String) (index : Nat) (y : MethodName) (bytes : ByteArray) (maxL : Nat) (ret : Option FieldType) (hh : List (Nat × Nat × Nat × Nat)) (ws : List Cond) (rm : Room) (mc ms n : Nat) : Prop :=
  (rm.cells = mc ∧ rm.slots = ms ∧ rm.frames + 1 ≤ R.frames ∧ 8 + (maxL + 11) + rm.locals ≤ R.locals ∧ (∀ w ∈ ws, ∀ (a' : Array Value) (U : State), s.WarmedH U.vm → w.before a' U = true) ∧ Cond.codeWith y bytes maxL ret hh ∈ ws) ∧
  (Cond.codeWith y bytes maxL ret hh).before args s = true ∧ (Cond.initialized y.cls).before args s = true ∧ (y.cls ≠ "java/lang/invoke/MethodHandle" ∧ y.cls ≠ "java/lang/invoke/VarHandle") ∧
  (∀ sig, parseMethodDescriptor y.desc = some sig → n = sig.parameters.length) ∧ (Cond.methodLink own index y).before args s = true ∧ (Cond.instanceMethod y).before args s = true ∧ (Cond.selects C y y).before args s = true
theorem vx_cwVW {own C : String} {index maxL mc ms : Nat} {y : MethodName} {bytes : ByteArray} {ret : Option FieldType} {hh : List (Nat × Nat × Nat × Nat)} {Ts ws ws' : List Cond} {rm : Room} (n : Nat) (ht : ∀ w ∈ Ts, w.before args s = true) (hT : GoodIn Ts (wsV own index C y ws)) (hw : ws = Cond.codeWith y bytes maxL ret hh :: ws') (hrc : rm.cells = mc) (hrs : rm.slots = ms)
    (hd : y.cls = C ∧ y.cls ≠ "java/lang/invoke/MethodHandle" ∧ y.cls ≠ "java/lang/invoke/VarHandle" ∧ (parseMethodDescriptor y.desc).map (fun d => d.parameters.length) = some n) (hR : rm.frames + 1 ≤ R.frames ∧ 8 + (maxL + 11) + rm.locals ≤ R.locals) :
    vx_CVW R s args own C index y bytes maxL ret hh ws rm mc ms n := by
  obtain ⟨hC, hd⟩ := hd
  subst hC
  have ok : ∀ w ∈ wsV own index y.cls y ws, w.before args s = true := fun w h => ht w (hT w h).1
  have hG : GoodIn Ts ws := fun w h => hT w (by unfold wsV; exact List.mem_append_right _ h)
  have hc : Cond.codeWith y bytes maxL ret hh ∈ ws := by rw [hw]; exact List.mem_cons_self
  refine ⟨⟨hrc, hrs, hR.1, hR.2, pay_in ht hG, hc⟩, ht _ (hG _ hc).1, ok _ (by simp [wsV]), ⟨hd.1, hd.2.1⟩, fun sig h => ?_, ok _ (by simp [wsV]), ok _ (by simp [wsV]), ok _ (by simp [wsV])⟩
  have h2 := hd.2.2
  rw [h] at h2
  exact (Option.some.inj h2).symm
theorem vx_runVW {y : MethodName} {bytes cc : ByteArray} {maxL nL mc ms n index : Nat} {ret : Option FieldType} {hh : List (Nat × Nat × Nat × Nat)} {ws : List Cond} {rm : Room} {Pc : Array Value → State → Prop} {Qc : Array Value → State → Outcome → State → Prop} {free : Addr → Prop} {Ts : List Cond} {own C : String} {b : Addr} {As rest : List Value} {g : JFrame}
    (S : CallFix p m c cc nL s args Ts own) (hM : Met l y ws rm Pc Qc mc ms free) (cw : vx_CVW R s args own C index y bytes maxL ret hh ws rm mc ms n) (hp : PreV s H C b Pc As)
    (hg : g.method = m) (hn : As.length = n) (hsize : g.locals.size = nL) (hstack : g.stack = As.reverse ++ .ref b :: rest) (hW : 2 * g.monitorRoom + (rest.map fun v => v.category).sum ≤ 8) (hdg : decode cc g.pc = .ok (.invokevirtual index, 3)) (hf : cells + mc ≤ R.cells ∧ slots + ms ≤ R.slots) :
    va_Run p l e R s m args below meth c H locs cells slots mc ms g rest (Qc (Value.ref b :: As).toArray) free := by
  obtain ⟨⟨hrc, hrs, hfr, hlo, hws, hcw⟩, hcode, hini, hy, hlen, hl, hin, hse⟩ := cw
  have hK : Back l R p e below s args y 3 8 (PreOf R mc ms Pc) (PostOf Qc mc ms free) := va_backW (hh := hh) (bytes := bytes) (maxL := maxL) (ret := ret) hM hp.1 hrc hrs hfr hlo hws hcw (fun a' U hW => word_at hW (Or.inl (by first | rfl | simp [Cond.onTables, Cond.keeps, Cond.steady])) hini)
  obtain ⟨hx, hb, hml, ho, -⟩ := S
  obtain ⟨-, ⟨cellB, hcB, hoB, hclB⟩, hPc⟩ := hp
  intro T hT X
  obtain ⟨v, vm₁, ⟨U', l2, c2, s2⟩, hW₁, X', ⟨g', mk, t, L, e1, e2, hq, h1, hL, h2, h3⟩, st⟩ := vx_callVW X hx (C := C) (hh := hh) (bytes := bytes) (maxL := maxL) (ret := ret) ho hl hin hse hcode hy hK (by rw [hT]; exact hcB) hoB hclB hg (hsize.trans hml.symm) (argsL := As) (rest := rest) (fun sig h => hn.trans (hlen sig h)) hstack hW (by rw [hb]; exact hdg)
    (fun vm₁ hW₁ => ⟨hf.1, hf.2, hPc (T.setVm vm₁) hT hW₁⟩)
  dsimp only [Pt.U, Pt.locs, Pt.cells, Pt.slots] at X' e1 e2 h1 h2 h3 st
  subst h1; subst h2; subst h3
  exact ⟨v, (T.setVm vm₁).calling g' mk (Value.ref b :: As).toArray, t, U', L, hT, X', hL, e1, e2, hq, st⟩
section
variable {y : MethodName} {bytes cc : ByteArray} {maxL nL mc ms n index : Nat} {ret : Option FieldType} {ws : List Cond} {rm : Room} {Pc : Array Value → State → Prop} {Qc : Array Value → State → Outcome → State → Prop} {XC : String → State → State → Prop} {free : Addr → Prop} {Ts : List Cond} {own C : String} {b : Addr} {As rest : List Value} {g : JFrame}
theorem vx_runVX {hh : List (Nat × Nat × Nat × Nat)} (S : CallFix p m c cc nL s args Ts own) (hM : vx_Met l y ws rm Pc Qc XC mc ms free) (cw : vx_CVW R s args own C index y bytes maxL ret hh ws rm mc ms n) (hp : PreV s H C b Pc As)
    (hg : g.method = m) (hn : As.length = n) (hsize : g.locals.size = nL) (hstack : g.stack = As.reverse ++ .ref b :: rest) (hW : 2 * g.monitorRoom + (rest.map fun v => v.category).sum ≤ 8) (hdg : decode cc g.pc = .ok (.invokevirtual index, 3)) (hf : cells + mc ≤ R.cells ∧ slots + ms ≤ R.slots) :
    vx_Run p l e R s m args below meth c H locs cells slots mc ms g rest (Qc (Value.ref b :: As).toArray) XC free := by
  obtain ⟨⟨hrc, hrs, hfr, hlo, hws, hcw⟩, hcode, hini, hy, hlen, hl, hin, hse⟩ := cw
  have hK : vx_Back l R p e below s args y 3 8 (PreOf R mc ms Pc) (PostOf Qc mc ms free) (vx_Post XC mc ms free) := vx_backW (hh := hh) (bytes := bytes) (maxL := maxL) (ret := ret) hM hp.1 hrc hrs hfr hlo hws hcw (fun a' U hW => word_at hW (Or.inl (by first | rfl | simp [Cond.onTables, Cond.keeps, Cond.steady])) hini)
  obtain ⟨hx, hb, hml, ho, -⟩ := S
  obtain ⟨-, ⟨cellB, hcB, hoB, hclB⟩, hPc⟩ := hp
  intro T hT X
  rcases vx_callVX X hx (C := C) (hh := hh) (bytes := bytes) (maxL := maxL) (ret := ret) ho hl hin hse hcode hy hK (by rw [hT]; exact hcB) hoB hclB hg (hsize.trans hml.symm) (argsL := As) (rest := rest) (fun sig h => hn.trans (hlen sig h)) hstack hW (by rw [hb]; exact hdg)
    (fun vm₁ hW₁ => ⟨hf.1, hf.2, hPc (T.setVm vm₁) hT hW₁⟩) with ⟨v, vm₁, ⟨U', l2, c2, s2⟩, hW₁, X', ⟨g', mk, t, L, e1, e2, hq, h1, hL, h2, h3⟩, st⟩ | ⟨q, vm₁, ⟨U', l2, c2, s2⟩, hW₁, X', ⟨g', mk, t, L, E, ce, e1, e2, hq, hce, hcv, hcl, h1, hL, h2, h3⟩, st⟩
  · dsimp only [Pt.U, Pt.locs, Pt.cells, Pt.slots] at X' e1 e2 h1 h2 h3 st
    subst h1; subst h2; subst h3
    exact Or.inl ⟨v, (T.setVm vm₁).calling g' mk (Value.ref b :: As).toArray, t, U', L, hT, X', hL, e1, e2, hq, st⟩
  · dsimp only [Pt.U, Pt.locs, Pt.cells, Pt.slots] at X' e1 e2 h1 h2 h3 st hcl
    subst h1; subst h2; subst h3
    exact Or.inr ⟨q, (T.setVm vm₁).calling g' mk (Value.ref b :: As).toArray, t, U', L, E, ce, hT, X', hL, e1, e2, hq, hce, hcv, vx_cls hW₁ hcl, st⟩
theorem vx_runSX {hh : List (Nat × Nat × Nat × Nat)} (S : CallFix p m c cc nL s args Ts own) (hM : vx_Met l y ws rm Pc Qc XC mc ms free) (cw : vx_CSW R s args own index y bytes maxL ret hh ws rm mc ms n) (hp : PreS s H Pc As)
    (hg : g.method = m) (hn : As.length = n) (hsize : g.locals.size = nL) (hstack : g.stack = As.reverse ++ rest) (hW : 2 * g.monitorRoom + (rest.map fun v => v.category).sum ≤ 8) (hdg : decode cc g.pc = .ok (.invokestatic index, 3)) (hf : cells + mc ≤ R.cells ∧ slots + ms ≤ R.slots) :
    vx_Run p l e R s m args below meth c H locs cells slots mc ms g rest (Qc As.toArray) XC free := by
  obtain ⟨⟨hrc, hrs, hfr, hlo, hws, hcw⟩, hcode, hini, hy, hlen, hl, hstt⟩ := cw
  have hK : vx_Back l R p e below s args y 3 8 (PreOf R mc ms Pc) (PostOf Qc mc ms free) (vx_Post XC mc ms free) := vx_backW (hh := hh) (bytes := bytes) (maxL := maxL) (ret := ret) hM hp.1 hrc hrs hfr hlo hws hcw (fun a' U hW => word_at hW (Or.inl (by first | rfl | simp [Cond.onTables, Cond.keeps, Cond.steady])) hini)
  obtain ⟨hx, hb, hml, ho, -⟩ := S
  intro T hT X
  rcases vx_callSX X hx (hh := hh) (bytes := bytes) (maxL := maxL) (ret := ret) ho hl hstt hini hcode hy hK hg (hsize.trans hml.symm) (argsL := As) (rest := rest) (fun sig h => hn.trans (hlen sig h)) hstack hW (by rw [hb]; exact hdg)
    (fun vm₁ hW₁ => ⟨hf.1, hf.2, hp.2 (T.setVm vm₁) hT hW₁⟩) with ⟨v, vm₁, ⟨U', l2, c2, s2⟩, hW₁, X', ⟨g', mk, t, L, e1, e2, hq, h1, hL, h2, h3⟩, st⟩ | ⟨q, vm₁, ⟨U', l2, c2, s2⟩, hW₁, X', ⟨g', mk, t, L, E, ce, e1, e2, hq, hce, hcv, hcl, h1, hL, h2, h3⟩, st⟩
  · dsimp only [Pt.U, Pt.locs, Pt.cells, Pt.slots] at X' e1 e2 h1 h2 h3 st
    subst h1; subst h2; subst h3
    exact Or.inl ⟨v, (T.setVm vm₁).calling g' mk As.toArray, t, U', L, hT, X', hL, e1, e2, hq, st⟩
  · dsimp only [Pt.U, Pt.locs, Pt.cells, Pt.slots] at X' e1 e2 h1 h2 h3 st hcl
    subst h1; subst h2; subst h3
    exact Or.inr ⟨q, (T.setVm vm₁).calling g' mk As.toArray, t, U', L, E, ce, hT, X', hL, e1, e2, hq, hce, hcv, vx_cls hW₁ hcl, st⟩
end
end VXH
theorem vx_ofWH {l : Launch} {y : MethodName} {ws ws' : List Cond} {rm : Room} {Pc : Array Value → State → Prop} {Qc : Array Value → State → Outcome → State → Prop} {XC : String → State → State → Prop} {mc ms : Nat} {free : Addr → Prop} {cc : ByteArray} {maxL : Nat} {ret : Option FieldType} {hh : List (Nat × Nat × Nat × Nat)}
    (hy : plainName y.cls = true) (hw : ws = Cond.codeWith y cc maxL ret hh :: ws')
    (body : ∀ p e s m args below meth c s₁, BodyLoose p l y (headSpec ws rm) cc maxL ret e s m args below meth c s₁ → c.maxLocals = maxL → Pc args s →
      W p l e (headSpec ws rm).room s m args below meth c s.heap [] 0 0 (vx_MQ below Qc XC args s mc ms free) (entryFrame m args maxL)) : vx_Met l y ws rm Pc Qc XC mc ms free := by
  refine MetFree.of_bodyS (code := cc) (maxLocals := maxL) (ret := ret) hy ?_ ?_
  · intro args s m h hn
    obtain ⟨m9, meth, c, hn9, h1, h2, h3, h4, -, h5, h6, -⟩ := Cond.codeWith_spec (atoms_spec (ws := ws) h _ (by rw [hw]; exact List.mem_cons_self))
    cases hn.symm.trans hn9
    exact ⟨meth, c, h1, h2, h3, h4, h5, h6⟩
  · intro p e s m args below meth c s₁ B hml hP _
    have hh0 : s₁.heap = s.heap := by rw [B.state]; rfl
    obtain ⟨t, a1, o, b1, b2, b3⟩ := body p e s m args below meth c s₁ B hml hP s₁ hh0 (Stand.of_body B)
    exact ⟨t, o, a1, b1, b2, b3⟩
/-! ===== END ===== -/

/-! ===== BEGIN what the machine throws by itself, no traces kept ===== -/
section VXM
set_option maxHeartbeats 1000000 in
/-- the machine throws cls with the message text, no traces kept: from its note over the frame g to 'throwing' over the same frame (follows the proofs of Stand.vmThrowsMessage, Shelf/KitTracedVmS.lean, and Stand.throwsMessageColdBareV, StandMessageColdV.lean, without the step out of the frame) -/
theorem vx_vmAt {p : Program} {l : Launch} {e : Env} {R : Room} {s : State} {m₀ : MethodId} {args : Array Value} {below : List Frame} {meth : Method} {c : Code} {W : State} {locs : List Loc} {cells slots : Nat}
    (X : Stand p l e R s m₀ args below meth c W locs cells slots) (hexec : p.tables.exec = Jvm.exec) (htr : e.platform.stackTraces = false) {cls : String} {names : List String} {text : String}
    (hcls : Bundle.fit cls = true) (hnames : ∀ n ∈ names, Bundle.fit n = true) (hsoe : (cls == "java/lang/StackOverflowError") = false) (hoom : (cls == "java/lang/OutOfMemoryError") = false)
    (h : ∀ a ∈ Bundle.messageArmAtoms cls names, a.before args s = true)
    (hlocs : ∀ x ∈ locs, ∀ cell, s.heap[x.base]? = some cell → cell.vm.isStatics = false)
    (htext : (text == notModelled) = false) (hlimit : ¬ (stringBytes (stringToUtf16 text)).size > e.platform.arrayLengthLimit) (hheap : ¬ (stringBytes (stringToUtf16 text)).size * componentBytes .byte > e.platform.maxHeapBytes)
    {g : JFrame} (hg : g.method = m₀) (hsize : g.locals.size = c.maxLocals)
    (hRframes : names.length + 4 < R.frames) (hRlocals : 2 * g.monitorRoom + (g.stack.map fun v => v.category).sum + 10240 ≤ R.locals) (hshort : 13 * names.length + 55 ≤ 10240)
    (hRcells : cells + 3 ≤ R.cells) (hRslots : slots + ((stringBytes (stringToUtf16 text)).size + 4 + 6) ≤ R.slots) (hlocks : meth.locks = false) :
    ∃ (S : State) (q : Addr) (ce : Cell), (∀ target, Steps p.tables e below ((S.setTop g).pushFrame (.throwing q)) target → Steps p.tables e below ((W.setTop g).pushFrame (.throwNew cls (some text) none)) target) ∧
      Stand p l e R s m₀ args below meth c S locs (cells + 3) (slots + ((stringBytes (stringToUtf16 text)).size + 4 + 6)) ∧ S.heap[q]? = some ce ∧ s.vm.findClass cls = some ce.cls ∧ ce.vm = .none := by
  have howns : e.platform.frameOwnsMonitors = true := by rw [X.admits.platform]
  have hfin : e.platform.finalization = false := by rw [X.admits.platform]
  have hpl : e.platform.magicAccessors = ({} : Platform).magicAccessors := by rw [X.admits.platform]
  have a : ∀ x, x ∈ Bundle.messageArmAtoms cls names → x.holds args s none s [] = true := fun x hx => h x hx
  obtain ⟨T, Z0, L, -, Y⟩ := ThrowableC.of_atoms (args := args) howns hfin hpl (fun x hx => h x (by simp [Bundle.messageArmAtoms, hx]))
  obtain ⟨Z, M, LZ, LM, hnZ⟩ := Init0T.ofS_atoms (args := args) hpl L Y (fun x hx => h x (by simp [Bundle.messageArmAtoms, hx]))
  obtain ⟨P1, Ps, hlen, L1, hL, hP1m, hlink1, hlink⟩ := Bundle.chainS (args := args) hpl hnZ names cls hcls hnames (fun x hx => h x (by simp [Bundle.messageArmAtoms, hx]))
  obtain ⟨Zs, LZs, hn4, hfitv, hfitc⟩ := StringT.of_atoms (args := args) (fun x hx => h x (by simp [Bundle.messageArmAtoms, hx]))
  have hfound : s.vm.findClass cls = some P1.m.cls := findClass_of_methodNamed hP1m
  obtain ⟨c1, kX, hc1, hk, hord, -, -, hn6⟩ := Cond.instantiable_spec (a (.instantiable cls 6) (by simp [Bundle.messageArmAtoms]))
  cases Option.some.inj (hc1.symm.trans hfound)
  have hinit := Cond.initialized_spec hfound hk (a (.initialized cls) (by simp [Bundle.messageArmAtoms]))
  have hctor : kX.findMethod "<init>" "(Ljava/lang/String;)V" = some P1.m.idx := findMethod_of_methodNamed hP1m hk
  have hsel0 : selectMethod e.platform s.vm P1.m.cls T.fill0 = .method T.fill0 := by
    obtain ⟨c2, r2, m2, q1, q2, q3, q4, -⟩ := Cond.selects_spec (a (.selects cls Bundle.tFill0 Bundle.tFill0) (by simp [Bundle.messageArmAtoms]))
    cases Option.some.inj (q1.symm.trans hfound)
    cases Option.some.inj (q2.symm.trans (State.methodFound?_of_named Y.fill0 (by decide)))
    cases Option.some.inj (q3.symm.trans Y.fill0)
    rw [Launch.admits_selectMethod X.admits]; exact q4
  have hselF : selectMethod e.platform s.vm P1.m.cls T.fill = .method T.fill := by
    obtain ⟨c2, r2, m2, q1, q2, q3, q4, -⟩ := Cond.selects_spec (a (.selects cls Bundle.tFill Bundle.tFill) (by simp [Bundle.messageArmAtoms]))
    cases Option.some.inj (q1.symm.trans hfound)
    cases Option.some.inj (q2.symm.trans (State.methodFound?_of_named Y.fill (by decide)))
    cases Option.some.inj (q3.symm.trans Y.fill)
    rw [Launch.admits_selectMethod X.admits]; exact q4
  obtain ⟨cellS0, hcS0, hiss⟩ := Y.statics
  obtain ⟨u0, hu0⟩ := Cond.staticRefV Y.unassigned L.unassignedStatic L.statics hcS0 hiss (a (.isRef (.static Bundle.tN "UNASSIGNED_STACK" Bundle.steD)) (by simp [Bundle.messageArmAtoms]))
  obtain ⟨sen, hsen⟩ := Cond.staticRefV Y.sentinel L.sentinelStatic L.statics hcS0 hiss (a (.isRef (.static Bundle.tN "SUPPRESSED_SENTINEL" Bundle.listD)) (by simp [Bundle.messageArmAtoms]))
  obtain ⟨ci198, i198, fB, hk198, hg198, ha198, hsB, -, hnB, htB, hffB⟩ := Cond.ownField (t := .object "java/lang/Object") Y.found L.cls (by decide +kernel) (a (.fieldLink Bundle.tN 198 Bundle.tN "backtrace" "Ljava/lang/Object;") (by simp [Bundle.messageArmAtoms])) (a (.lays Bundle.tN Bundle.tN "backtrace" "Ljava/lang/Object;") (by simp [Bundle.messageArmAtoms])) e.platform hpl
  obtain ⟨cellS, hcS', heS, -, hkeep⟩ := X.same.2.2.2.2.2 T.aS cellS0 hcS0
  have hcellS : W.heap[T.aS]? = some cellS := hcS'
  have hout' : ∀ i, (⟨T.aS, i⟩ : Loc) ∉ locs := fun i hmem => by
    have := hlocs _ hmem cellS0 hcS0
    rw [hiss] at this; cases this
  have hknownS : cellS.vm ≠ .unknown := by
    rw [heS]; intro hu
    rw [show cellS0.vm = .unknown from hu] at hiss
    cases hiss
  have hvU : cellS.slots[T.fUnassigned.slot]? = some u0.v := by rw [hkeep _ (hout' _)]; exact hu0
  have hvSen : cellS.slots[T.fSentinel.slot]? = some sen.v := by rw [hkeep _ (hout' _)]; exact hsen
  obtain ⟨iM, hffM⟩ := Y.msg
  obtain ⟨tyC, dC, hdC, hdnC⟩ := Cond.laysAt hfound hk Y.cause (a (.lays cls Bundle.tN "cause" "Ljava/lang/Throwable;") (by simp [Bundle.messageArmAtoms]))
  obtain ⟨tyS, dS, hdS, hdnS⟩ := Cond.laysAt hfound hk Y.stack (a (.lays cls Bundle.tN "stackTrace" Bundle.steD) (by simp [Bundle.messageArmAtoms]))
  obtain ⟨tyP, dP, hdP, hdnP⟩ := Cond.laysAt hfound hk Y.supp (a (.lays cls Bundle.tN "suppressedExceptions" Bundle.listD) (by simp [Bundle.messageArmAtoms]))
  obtain ⟨tyM, dM, hdM, hdnM⟩ := Cond.laysAt hfound hk hffM (a (.lays cls Bundle.tN "detailMessage" "Ljava/lang/String;") (by simp [Bundle.messageArmAtoms]))
  obtain ⟨tyB, dB, hdB, hdnB⟩ := Cond.laysAt hfound hk hffB (a (.lays cls Bundle.tN "backtrace" "Ljava/lang/Object;") (by simp [Bundle.messageArmAtoms]))
  have bC := Cond.laysApart hdB hdC hdnB hdnC (by rw [hnB, Y.causeName]; decide)
  have bS := Cond.laysApart hdB hdS hdnB hdnS (by rw [hnB, Y.stackName]; decide)
  have bP := Cond.laysApart hdB hdP hdnB hdnP (by rw [hnB, Y.suppName]; decide)
  have hbk : ((preparedCellV T.toThrowableT (freshCell P1.m.cls kX) (W.heap.size + 2) u0 sen).withEntry W.cur).slots[fB.slot]? = some .null := by
    have := fresh_default (c := P1.m.cls) tyB
    rw [htB] at this
    simpa [preparedCellV, Cell.setSlot, Cell.withEntry, Array.getElem?_setIfInBounds, bC, bS, bP, bC.symm, bS.symm, bP.symm, defaultValue] using this
  have tkC := Takes.of_laid (v := .ref (W.heap.size + 2)) hk hord tyC (by rw [Y.causeType]; rfl)
  have tkS := Takes.of_laid (v := u0.v) hk hord tyS (by rw [Y.stackType]; exact fits_refV_array _ u0)
  have tkP := Takes.of_laid (v := sen.v) hk hord tyP (by rw [Y.suppType]; exact fits_refV_object _ sen)
  have tkM := Takes.of_laid (v := .ref (W.heap.size + 1)) hk hord tyM (by rw [Y.msgType]; rfl)
  have hskip : SkipFacts T e.platform s (fun u => u) u0 ((preparedCellV T.toThrowableT (freshCell P1.m.cls kX) (W.heap.size + 2) u0 sen).withEntry W.cur) := ⟨{ ci198 := ci198, i198 := i198, fBack := fB }, ⟨hk198, hg198, ha198, hsB⟩, hbk, fun _ _ => rfl⟩
  have h0 : At W g.method c below := by rw [hg]; exact X.here
  obtain ⟨hbeyond, hfreeW⟩ := X.vmMayThrow hsize (.throwNew cls (some text) none) (fun f hf => by cases hf) rfl hRlocals
  have hfr' : W.frames.length + Ps.length + 4 < (e.platform.stackLimits W.me).1 := by have := X.framesAbove hRframes; omega
  have hwd' : (stackUse (.java g :: W.frames.tail)).2 + 13 * Ps.length + 55 ≤ (e.platform.stackLimits W.me).2 := by have := X.stackAbove hsize (K := 13 * Ps.length + 55) (by omega); omega
  have hslots : W.slotsUsed + (stringBytes (stringToUtf16 text)).size + Zs.kS.instanceTypes.size + kX.instanceTypes.size ≤ e.platform.maxSlots := by
    have := X.slotsAbove hRslots
    rw [hn4, hn6]
    omega
  obtain ⟨vm', hW', st⟩ := Steps.vmThrowsMessageColdByV p (s₀ := s) (S := W) (g := g) h0 hexec T L Z LZ M LM X.warmed (t := W.cur) rfl Zs LZs P1 L1 Ps hL hlink1 hlink hsoe hoom hfound hk hinit hord hctor
    (Launch.admits_hotImplicitExceptions X.admits) hbeyond hfreeW htext hlimit hheap (X.cellsAbove hRcells) hslots (hfitv _) (hfitc _)
    (Nn := fun u => u) heapOnly_id (fun _ _ => rfl) (fun _ => rfl) (fun u x y => setCell_twice _ _ _ _) (fun _ => Nat.le_refl _) (cN := ((preparedCellV T.toThrowableT (freshCell P1.m.cls kX) (W.heap.size + 2) u0 sen).withEntry W.cur))
    hsel0 hcellS hknownS hvU tkS (fun _ hu => hu) (fun _ hu => hu) rfl rfl rfl (by simp [preparedCellV, Cell.setSlot, Cell.withEntry]) hskip (fun _ _ hA hW _ hroom _ hrest => L.nativeOff p htr hA hW hroom hrest) hselF hvSen tkC tkP tkM Y.objLocals rfl hfr' hwd'
  rw [plainBareV_eq T.toThrowableT (W.heap.size + 2) u0 sen (.ref (W.heap.size + 1)) W.cur rfl rfl] at st
  obtain ⟨-, -, w3, w4, -, -, -⟩ := withThrown_facts e.platform W Zs text P1.m.cls kX
  have X3 := ((X.pushed (bytesOf Zs.cB (stringToUtf16 text))).pushed (stringAt Zs.cS Zs.kS Zs.fv Zs.fc (stringToUtf16 text) W.heap.size)).pushed (freshCell P1.m.cls kX)
  rw [← withString_eq] at X3
  have X4 := X3.noted hW'
  have ha : (W.heap.size + 2) < ((withThrown W Zs text P1.m.cls kX).setVm vm').heap.size := by show _ < (withThrown W Zs text P1.m.cls kX).heap.size; rw [w3]; omega
  have hcell : ((withThrown W Zs text P1.m.cls kX).setVm vm').heap[(W.heap.size + 2)]? = some (freshCell P1.m.cls kX) := w4
  have X5 := ((((X4.stored hcell T.fCause.slot (.ref (W.heap.size + 2))).storedAgain ha T.fStack.slot u0.v).storedAgain ha T.fSupp.slot sen.v).storedAgain ha T.fStack.slot u0.v).storedAgain ha T.fMsg.slot (.ref (W.heap.size + 1))
  obtain ⟨g₁, hfrM⟩ := X5.frames_eq
  have hU : ((((withThrown W Zs text P1.m.cls kX).setVm vm').setCell (W.heap.size + 2) (plainBareV T.toThrowableT (freshCell P1.m.cls kX) (W.heap.size + 2) u0 sen (.ref (W.heap.size + 1)))).setTop g).pushFrame (.throwing (W.heap.size + 2)) = (((withThrown W Zs text P1.m.cls kX).setVm vm').setCell (W.heap.size + 2) (plainBareV T.toThrowableT (freshCell P1.m.cls kX) (W.heap.size + 2) u0 sen (.ref (W.heap.size + 1)))).setFrames (.throwing (W.heap.size + 2) :: .java g :: below) := by
    rw [State.pushFrame, State.frames_setTop _ hfrM, State.setTop_of_frames _ hfrM, State.setFrames_setFrames]
  have b1 : (bytesOf Zs.cB (stringToUtf16 text)).slots.size = (stringBytes (stringToUtf16 text)).size := by
    rw [(Cell.writeAll_facts _ _).2.2]; simp [bytes0]
  have b2 : (stringAt Zs.cS Zs.kS Zs.fv Zs.fc (stringToUtf16 text) W.heap.size).slots.size = 4 := by simp [string0, Cell.setSlot, hn4]
  have b3 : (freshCell P1.m.cls kX).slots.size = 6 := by simp [hn6]
  rw [b1, b2, b3] at X5
  have e9 : slots + (stringBytes (stringToUtf16 text)).size + 4 + 6 = slots + ((stringBytes (stringToUtf16 text)).size + 4 + 6) := by omega
  rw [e9] at X5
  simp only [List.append_assoc, List.cons_append, List.nil_append] at X5
  refine ⟨((withThrown W Zs text P1.m.cls kX).setVm vm').setCell (W.heap.size + 2) (plainBareV T.toThrowableT (freshCell P1.m.cls kX) (W.heap.size + 2) u0 sen (.ref (W.heap.size + 1))), W.heap.size + 2, _, fun target ht => st _ (by rw [X.tail, ← hU]; exact ht),
    X5.forget (fun y hy => ?_), heapAt_setCell_self _ ha, hfound, rfl⟩
  simp only [List.mem_cons, List.not_mem_nil, or_false] at hy
  have hge : s.heap.size ≤ W.heap.size := X.same.2.1
  rcases hy with rfl | rfl | rfl | rfl | rfl <;> exact Nat.le_trans hge (Nat.le_add_right _ 2)
set_option maxHeartbeats 1000000 in
/-- the machine throws NullPointerException, no traces kept: from its note over the frame g to 'throwing' over the same frame (follows the proof of Stand.vmThrowsNpe, Shelf42/KT2.lean; throwsNpeColdBareVAt, Shelf42/NT91.lean, called) -/
theorem vx_npeAt {p : Program} {l : Launch} {e : Env} {R : Room} {s : State} {m₀ : MethodId} {args : Array Value} {below : List Frame} {meth : Method} {c : Code} {W : State} {locs : List Loc} {cells slots : Nat}
    (X : Stand p l e R s m₀ args below meth c W locs cells slots) (hexec : p.tables.exec = Jvm.exec) (htr : e.platform.stackTraces = false) {n : Nat}
    (h : ∀ a ∈ Bundle.npeArmAtoms n, a.before args s = true)
    (hlocs : ∀ x ∈ locs, ∀ cell, s.heap[x.base]? = some cell → cell.vm.isStatics = false)
    {g : JFrame} (hg : g.method = m₀) (hsize : g.locals.size = c.maxLocals)
    (hRframes : 7 < R.frames) (hRlocals : 2 * g.monitorRoom + (g.stack.map fun v => v.category).sum + 10240 ≤ R.locals)
    (hRcells : cells + 1 ≤ R.cells) (hRslots : slots + n ≤ R.slots) (hlocks : meth.locks = false) :
    ∃ (S : State) (q : Addr) (ce : Cell), (∀ target, Steps p.tables e below ((S.setTop g).pushFrame (.throwing q)) target → Steps p.tables e below ((W.setTop g).pushFrame (.throwNew "java/lang/NullPointerException" none none)) target) ∧
      Stand p l e R s m₀ args below meth c S locs (cells + 1) (slots + n) ∧ S.heap[q]? = some ce ∧ s.vm.findClass "java/lang/NullPointerException" = some ce.cls ∧ ce.vm = .none := by
  have howns : e.platform.frameOwnsMonitors = true := by rw [X.admits.platform]
  have hfin : e.platform.finalization = false := by rw [X.admits.platform]
  have hpl : e.platform.magicAccessors = ({} : Platform).magicAccessors := by rw [X.admits.platform]
  have hpl2 : e.platform.arrayCloneIsPublic = true := by rw [X.admits.platform]
  have a' : ∀ x, x ∈ Bundle.npeArmAtoms n → x.holds args s none s [] = true := fun x hx => h x hx
  obtain ⟨T, Z, L, LZ, Y⟩ := ThrowableC.of_atoms (args := args) howns hfin hpl (fun x hx => h x (by simp [Bundle.npeArmAtoms, hx]))
  obtain ⟨N, LN, hcN, hnNF, hordN, hffS⟩ := NpeC.of_atoms (args := args) hpl hpl2 L Y (fun x hx => h x (by simp [Bundle.npeArmAtoms, hx]))
  obtain ⟨P1, L1, hP1m, hP1s⟩ := PassC.of_atoms (args := args) (s := s) hpl (X := Bundle.nN) (Y := Bundle.rN) (by decide) (by decide) LibCode.NullPointerException.Init0.at_0 LibCode.NullPointerException.Init0.at_1 LibCode.NullPointerException.Init0.at_4 (fun x hx => h x (by simp [Bundle.npeArmAtoms, hx]))
  obtain ⟨PR, LR, hPRm, hPRs⟩ := PassC.of_atoms (args := args) (s := s) hpl (X := Bundle.rN) (Y := Bundle.eN) (by decide) (by decide) LibCode.RuntimeException.Init0.at_0 LibCode.RuntimeException.Init0.at_1 LibCode.RuntimeException.Init0.at_4 (fun x hx => h x (by simp [Bundle.npeArmAtoms, hx]))
  obtain ⟨PE, LEx, hPEm, hPEs⟩ := PassC.of_atoms (args := args) (s := s) hpl (X := Bundle.eN) (Y := Bundle.tN) (by decide) (by decide) LibCode.Exception.Init0.at_0 LibCode.Exception.Init0.at_1 LibCode.Exception.Init0.at_4 (fun x hx => h x (by simp [Bundle.npeArmAtoms, hx]))
  have hfound : s.vm.findClass Bundle.nN = some P1.m.cls := findClass_of_methodNamed hP1m
  have ecls : N.cN = P1.m.cls := Option.some.inj (hcN.symm.trans hfound)
  have hk : s.vm.classes[P1.m.cls]? = some N.kN := by rw [← ecls]; exact LN.cls
  have hinit := Cond.initialized_spec hfound hk (a' (.initialized Bundle.nN) (by simp [Bundle.npeArmAtoms]))
  have hctor : N.kN.findMethod "<init>" "()V" = some P1.m.idx := findMethod_of_methodNamed hP1m hk
  obtain ⟨c1, k1, hc1, hk1, -, -, -, hn⟩ := Cond.instantiable_spec (a' (.instantiable Bundle.nN n) (by simp [Bundle.npeArmAtoms]))
  cases Option.some.inj (hc1.symm.trans hfound)
  cases Option.some.inj (hk1.symm.trans hk)
  have hfsz : (freshCell P1.m.cls N.kN).slots.size = n := by simp [hn]
  have hlink1 : P1.sup = PR.m := Option.some.inj (hP1s.symm.trans hPRm)
  have hlinkR : PR.sup = PE.m := Option.some.inj (hPRs.symm.trans hPEm)
  have hlinkE : PE.sup = Z.m T.toThrowableT := Option.some.inj (hPEs.symm.trans Y.init0)
  have hLs : ∀ P, P ∈ [PR, PE] → P.Links0 e.platform s := fun P hP => by
    simp only [List.mem_cons, List.not_mem_nil, or_false] at hP
    rcases hP with rfl | rfl
    · exact LR
    · exact LEx
  have hsel0 : selectMethod e.platform s.vm P1.m.cls T.fill0 = .method T.fill0 := by
    obtain ⟨c2, r2, m2, q1, q2, q3, q4, -⟩ := Cond.selects_spec (a' (.selects Bundle.nN Bundle.tFill0 Bundle.tFill0) (by simp [Bundle.npeArmAtoms]))
    cases Option.some.inj (q1.symm.trans hfound)
    cases Option.some.inj (q2.symm.trans (State.methodFound?_of_named Y.fill0 (by decide)))
    cases Option.some.inj (q3.symm.trans Y.fill0)
    rw [Launch.admits_selectMethod X.admits]; exact q4
  have hselF : selectMethod e.platform s.vm P1.m.cls T.fill = .method N.fill := by
    obtain ⟨c2, r2, m2, q1, q2, q3, q4, -⟩ := Cond.selects_spec (a' (.selects Bundle.nN Bundle.tFill Bundle.nFill) (by simp [Bundle.npeArmAtoms]))
    cases Option.some.inj (q1.symm.trans hfound)
    cases Option.some.inj (q2.symm.trans (State.methodFound?_of_named Y.fill (by decide)))
    cases Option.some.inj (q3.symm.trans hnNF)
    rw [Launch.admits_selectMethod X.admits]; exact q4
  obtain ⟨cellS0, hcS0, hiss⟩ := Y.statics
  obtain ⟨u0, hu0⟩ := Cond.staticRefV Y.unassigned L.unassignedStatic L.statics hcS0 hiss (a' (.isRef (.static Bundle.tN "UNASSIGNED_STACK" Bundle.steD)) (by simp [Bundle.npeArmAtoms]))
  obtain ⟨sen, hsen⟩ := Cond.staticRefV Y.sentinel L.sentinelStatic L.statics hcS0 hiss (a' (.isRef (.static Bundle.tN "SUPPRESSED_SENTINEL" Bundle.listD)) (by simp [Bundle.npeArmAtoms]))
  obtain ⟨ci198, i198, fB, hk198, hg198, ha198, hsB, -, hnB, htB, hffB⟩ := Cond.ownField (t := .object "java/lang/Object") Y.found L.cls (by decide +kernel) (a' (.fieldLink Bundle.tN 198 Bundle.tN "backtrace" Bundle.objD) (by simp [Bundle.npeArmAtoms])) (a' (.lays Bundle.tN Bundle.tN "backtrace" Bundle.objD) (by simp [Bundle.npeArmAtoms])) e.platform hpl
  obtain ⟨cellS, hcS', heS, -, hkeep⟩ := X.same.2.2.2.2.2 T.aS cellS0 hcS0
  have hcellS : W.heap[T.aS]? = some cellS := hcS'
  have hout' : ∀ i, (⟨T.aS, i⟩ : Loc) ∉ locs := fun i hmem => by
    have := hlocs _ hmem cellS0 hcS0
    rw [hiss] at this; cases this
  have hknownS : cellS.vm ≠ .unknown := by
    rw [heS]; intro hu
    rw [show cellS0.vm = .unknown from hu] at hiss
    cases hiss
  have hvU : cellS.slots[T.fUnassigned.slot]? = some u0.v := by rw [hkeep _ (hout' _)]; exact hu0
  have hvSen : cellS.slots[T.fSentinel.slot]? = some sen.v := by rw [hkeep _ (hout' _)]; exact hsen
  obtain ⟨tyC, dC, hdC, hdnC⟩ := Cond.laysAt hfound hk Y.cause (a' (.lays Bundle.nN Bundle.tN "cause" "Ljava/lang/Throwable;") (by simp [Bundle.npeArmAtoms]))
  obtain ⟨tyS, dS, hdS, hdnS⟩ := Cond.laysAt hfound hk Y.stack (a' (.lays Bundle.nN Bundle.tN "stackTrace" Bundle.steD) (by simp [Bundle.npeArmAtoms]))
  obtain ⟨tyP, dP, hdP, hdnP⟩ := Cond.laysAt hfound hk Y.supp (a' (.lays Bundle.nN Bundle.tN "suppressedExceptions" Bundle.listD) (by simp [Bundle.npeArmAtoms]))
  obtain ⟨tyX, dX, hdX, hdnX⟩ := Cond.laysAt hfound hk hffS (a' (.lays Bundle.nN Bundle.nN "extendedMessageState" "I") (by simp [Bundle.npeArmAtoms, Bundle.npeAtoms]))
  obtain ⟨hnX, htX⟩ := State.fieldFound?_type hffS (t := .int) (by decide +kernel)
  have xC := Cond.laysApart hdC hdX hdnC hdnX (by rw [hnX, Y.causeName]; decide)
  have xS := Cond.laysApart hdS hdX hdnS hdnX (by rw [hnX, Y.stackName]; decide)
  have xP := Cond.laysApart hdP hdX hdnP hdnX (by rw [hnX, Y.suppName]; decide)
  have hv0 : (freshCell P1.m.cls N.kN).slots[N.fState.slot]? = some (.int 0) := by
    have := fresh_default (c := P1.m.cls) tyX
    rw [htX] at this; exact this
  obtain ⟨tyB, dB, hdB, hdnB⟩ := Cond.laysAt hfound hk hffB (a' (.lays Bundle.nN Bundle.tN "backtrace" Bundle.objD) (by simp [Bundle.npeArmAtoms]))
  have bC := Cond.laysApart hdB hdC hdnB hdnC (by rw [hnB, Y.causeName]; decide)
  have bS := Cond.laysApart hdB hdS hdnB hdnS (by rw [hnB, Y.stackName]; decide)
  have bP := Cond.laysApart hdB hdP hdnB hdnP (by rw [hnB, Y.suppName]; decide)
  have bX := Cond.laysApart hdB hdX hdnB hdnX (by rw [hnB, hnX]; decide)
  have hbk : ((npeCell N.toNpeT (preparedCellV T.toThrowableT (freshCell P1.m.cls N.kN) W.heap.size u0 sen) W.cur).withEntry W.cur).slots[fB.slot]? = some .null := by
    have := fresh_default (c := P1.m.cls) tyB
    rw [htB] at this
    simpa [npeCell, preparedCellV, Cell.setSlot, Cell.withEntry, Array.getElem?_setIfInBounds, bC, bS, bP, bX, bC.symm, bS.symm, bP.symm, bX.symm, defaultValue] using this
  have tkC := Takes.of_laid (v := .ref W.heap.size) hk hordN tyC (by rw [Y.causeType]; rfl)
  have tkS := Takes.of_laid (v := u0.v) hk hordN tyS (by rw [Y.stackType]; exact fits_refV_array _ u0)
  have tkP := Takes.of_laid (v := sen.v) hk hordN tyP (by rw [Y.suppType]; exact fits_refV_object _ sen)
  have tkX := Takes.of_laid (v := .int 1) hk hordN tyX (by rw [htX]; rfl)
  have hskip : SkipFacts T e.platform s (fun u => u) u0 ((npeCell N.toNpeT (preparedCellV T.toThrowableT (freshCell P1.m.cls N.kN) W.heap.size u0 sen) W.cur).withEntry W.cur) := ⟨{ ci198 := ci198, i198 := i198, fBack := fB }, ⟨hk198, hg198, ha198, hsB⟩, hbk, fun _ _ => rfl⟩
  obtain ⟨vm', X3, st, -⟩ := X.throwsNpeColdBareVAt hexec hg hsize T L Z LZ N LN P1 L1 [PR, PE] hLs hlink1 ⟨hlinkR, hlinkE, trivial⟩ hfound hk hinit hordN hctor hsel0 hselF hcellS hknownS hvU hvSen
    hv0 xC xS xP tkC tkS tkP tkX Y.objLocals hskip (fun _ _ hA hW _ hroom _ hrest => L.nativeOff p htr hA hW hroom hrest) (by simpa using hRframes) hRlocals (by simp) hRcells (by rw [hn]; exact hRslots)
  have hlt : W.heap.size < ((W.pushCell (freshCell P1.m.cls N.kN)).setVm vm').heap.size := by
    show W.heap.size < (W.pushCell (freshCell P1.m.cls N.kN)).heap.size
    rw [State.heap_size_pushCell]; omega
  rw [hfsz] at X3
  obtain ⟨g₁, hfrM⟩ := X3.frames_eq
  have hU : ((((W.pushCell (freshCell P1.m.cls N.kN)).setVm vm').setCell W.heap.size (npeBareV T.toThrowableT N.toNpeT (freshCell P1.m.cls N.kN) W.heap.size u0 sen)).setTop g).pushFrame (.throwing W.heap.size) = (((W.pushCell (freshCell P1.m.cls N.kN)).setVm vm').setCell W.heap.size (npeBareV T.toThrowableT N.toNpeT (freshCell P1.m.cls N.kN) W.heap.size u0 sen)).setFrames (.throwing W.heap.size :: .java g :: below) := by
    rw [State.pushFrame, State.frames_setTop _ hfrM, State.setTop_of_frames _ hfrM, State.setFrames_setFrames]
  refine ⟨_, W.heap.size, _, fun target ht => st.trans (by rw [← hU]; exact ht), X3.forget (fun y hy => ?_), heapAt_setCell_self _ hlt, hfound, rfl⟩
  simp only [List.mem_cons, List.not_mem_nil, or_false] at hy
  have hge : s.heap.size ≤ W.heap.size := X.same.2.1
  rcases hy with rfl | rfl | rfl | rfl | rfl <;> exact hge
/-- the words of a machine's NullPointerException, but the four that speak of the heap -/
def vx_atN (n : Nat) : List Cond := (Bundle.npeArmAtoms n).filter vx_no
/-- the words of a machine's throw with a message, but the four that speak of the heap -/
def vx_atM (X : String) (names : List String) : List Cond := (Bundle.messageArmAtoms X names).filter vx_no
section
variable {p : Program} {l : Launch} {e : Env} {R : Room} {s : State} {m : MethodId} {args : Array Value} {below : List Frame} {meth : Method} {c : Code} {H : Heap} {locs : List Loc} {cells slots : Nat}
/-- a frame seen from a rebased start, seen from the first start again -/
theorem vx_back9 {T S : State} {R' : Room} {k n : Nat} (X : Stand p l e R s m args below meth c T locs cells slots) (Y : Stand p l e R' ((T.setVm s.vm).setFrames (.invoking m args :: below)) m args below meth c T [] 0 0) (Z : Stand p l e R' ((T.setVm s.vm).setFrames (.invoking m args :: below)) m args below meth c S [] k n) :
    Stand p l e R s m args below meth c S locs (cells + k) (slots + n) := by
  have hW0 : s.WarmedH ((T.setVm s.vm).setFrames (.invoking m args :: below)).vm := State.WarmedH.refl s
  refine { admits := X.admits, cas := X.cas, clock := X.clock, frames := X.frames, room := X.room, hears := X.hears, method := X.method, code := X.code, here := Z.here, tail := Z.tail, warmed := State.WarmedH.trans hW0 Z.warmed, limits := Z.limits.trans (Y.limits.symm.trans X.limits), bytes := Z.bytes.trans (Y.bytes.symm.trans X.bytes), same := ?_ }
  obtain ⟨e1, e2⟩ := Z.same
  rw [State.setFrames_setFrames] at e1
  have h2 : (T.setVm s.vm).sameButNew (S.setVm s.vm) [] k n := ⟨e1, e2⟩
  have h3 := X.same.trans h2
  rw [List.append_nil] at h3
  exact h3
/-- from the machine's note that E is thrown here with this text -/
def vx_Note (p : Program) (l : Launch) (e : Env) (R : Room) (s : State) (m : MethodId) (args : Array Value) (below : List Frame) (meth : Method) (c : Code) (H : Heap) (locs : List Loc) (cells slots : Nat) (Q : State → Prop) (g : JFrame) (E text : String) : Prop :=
  ∀ T : State, T.heap = H → Stand p l e R s m args below meth c T locs cells slots → ∃ t, Steps p.tables e below ((T.setTop g).pushFrame (.throwNew E (some text) none)) t ∧ Q t
theorem vx_vm {pc : Nat} {ls : Array Slot} {rest : List Value} {Q : State → Prop} (hexec : p.tables.exec = Jvm.exec) (hl : l.stackTraces = false) {cls text : String} {names : List String} {nb : Nat} {A : Nat → Prop}
    (hcls : Bundle.fit cls = true) (hnames : ∀ n ∈ names, Bundle.fit n = true) (hsoe : (cls == "java/lang/StackOverflowError") = false) (hoom : (cls == "java/lang/OutOfMemoryError") = false)
    (hat : ∀ w ∈ vx_atM cls names, w.before args s = true) (hgood : ∀ w ∈ vx_atM cls names, vx_ot w = true)
    (hU : vx_Zq Bundle.tN "UNASSIGNED_STACK" Bundle.steD A s s.heap) (hN : vx_Zq Bundle.tN "SUPPRESSED_SENTINEL" Bundle.listD A s s.heap) (hS : va_S A s.heap H locs) (hsize : ls.size = c.maxLocals)
    (htext : (text == notModelled) = false) (hnb : (stringBytes (stringToUtf16 text)).size ≤ nb) (hnb1 : nb ≤ 1000)
    (hRframes : names.length + 4 < R.frames) (hRlocals : (rest.map fun v => v.category).sum + 10240 ≤ R.locals) (hshort : 13 * names.length + 55 ≤ 10240) (hRcells : cells + 3 ≤ R.cells) (hRslots : slots + (nb + 10) ≤ R.slots) (hlocks : meth.locks = false)
    (k : ∀ (H1 : Heap) (q9 : Addr) (ce : Cell), H.size ≤ H1.size → (∀ q : Nat, q < H.size → H1[q]? = H[q]?) → va_S A s.heap H1 locs → H1[q9]? = some ce → ce.vm = .none → s.vm.findClass cls = some ce.cls → vx_W p l e R s m args below meth c H1 locs (cells + 3) (slots + (nb + 10)) Q (F0 m pc ls rest) q9) :
    vx_Note p l e R s m args below meth c H locs cells slots Q (F0 m pc ls rest) cls text := by
  intro T hT X
  have htr : e.platform.stackTraces = false := (show e.platform.stackTraces = l.stackTraces by rw [X.admits.platform]).trans hl
  have Y := vx_rebase X (R' := { frames := R.frames, locals := R.locals, cells := 3, slots := nb + 10 }) (Nat.le_refl _) (Nat.le_refl _) hRcells hRslots
  have hhp : ((T.setVm s.vm).setFrames (.invoking m args :: below)).heap = H := hT
  have hW0 : s.WarmedH ((T.setVm s.vm).setFrames (.invoking m args :: below)).vm := State.WarmedH.refl s
  have hat' : ∀ w ∈ vx_atM cls names, w.before args ((T.setVm s.vm).setFrames (.invoking m args :: below)) = true := fun w hw => vx_ot_at hW0 rfl (hgood w hw) (hat w hw)
  have hU' : vx_Zq Bundle.tN "UNASSIGNED_STACK" Bundle.steD A ((T.setVm s.vm).setFrames (.invoking m args :: below)) ((T.setVm s.vm).setFrames (.invoking m args :: below)).heap := by rw [hhp]; exact vx_Zq.moved hW0.alike (hU.kept hS.2.1)
  have hN' : vx_Zq Bundle.tN "SUPPRESSED_SENTINEL" Bundle.listD A ((T.setVm s.vm).setFrames (.invoking m args :: below)) ((T.setVm s.vm).setFrames (.invoking m args :: below)).heap := by rw [hhp]; exact vx_Zq.moved hW0.alike (hN.kept hS.2.1)
  obtain ⟨S, q, ce, st, Z, hce, hcl', hv⟩ := vx_vmAt Y hexec htr (cls := cls) (names := names) (text := text) hcls hnames hsoe hoom (vx_own hat' (vx_isRefq hU'.1) (vx_isRefq hN'.1) hU'.2.word hN'.2.word) (fun x hx => nomatch hx) htext
    (by rw [Launch.admits_arrayLengthLimit X.admits]; omega) (by rw [Launch.admits_maxHeapBytes X.admits]; simp only [componentBytes]; omega)
    (g := F0 m pc ls rest) rfl hsize hRframes (by show 2 * 0 + (rest.map fun v => v.category).sum + 10240 ≤ R.locals; omega) hshort (by show 0 + 3 ≤ 3; omega) (by show 0 + (_ + 4 + 6) ≤ nb + 10; omega) hlocks
  obtain ⟨f1, f2⟩ := vx_frame Z.same
  have f1' : H.size ≤ S.heap.size := by rw [← hT]; exact f1
  have f2' : ∀ q : Nat, q < H.size → S.heap[q]? = H[q]? := fun q hq => by
    rw [← hT]
    exact f2 q (by rw [← hT] at hq; exact hq) (fun z hz => nomatch hz)
  have X5 := vx_back9 X Y Z
  have X6 : Stand p l e R s m args below meth c S locs (cells + 3) (slots + (nb + 10)) := { X5 with same := X5.same.mono (by omega) (by omega) }
  obtain ⟨t, a1, b1⟩ := k S.heap q ce f1' f2' ⟨Nat.le_trans hS.1 f1', fun q h1 h2 => (f2' q (Nat.lt_of_lt_of_le h1 hS.1)).trans (hS.2.1 q h1 h2), hS.2.2⟩ hce hv hcl' S rfl X6
  exact ⟨t, st t a1, b1⟩
/-- from the machine's note that NullPointerException is thrown here -/
def vx_NoteN (p : Program) (l : Launch) (e : Env) (R : Room) (s : State) (m : MethodId) (args : Array Value) (below : List Frame) (meth : Method) (c : Code) (H : Heap) (locs : List Loc) (cells slots : Nat) (Q : State → Prop) (g : JFrame) : Prop :=
  ∀ T : State, T.heap = H → Stand p l e R s m args below meth c T locs cells slots → ∃ t, Steps p.tables e below ((T.setTop g).pushFrame (.throwNew "java/lang/NullPointerException" none none)) t ∧ Q t
theorem vx_npe {pc : Nat} {ls : Array Slot} {rest : List Value} {Q : State → Prop} (hexec : p.tables.exec = Jvm.exec) (hl : l.stackTraces = false) {nb : Nat} {A : Nat → Prop}
    (hat : ∀ w ∈ vx_atN nb, w.before args s = true) (hgood : ∀ w ∈ vx_atN nb, vx_ot w = true)
    (hU : vx_Zq Bundle.tN "UNASSIGNED_STACK" Bundle.steD A s s.heap) (hN : vx_Zq Bundle.tN "SUPPRESSED_SENTINEL" Bundle.listD A s s.heap) (hS : va_S A s.heap H locs) (hsize : ls.size = c.maxLocals)
    (hRframes : 7 < R.frames) (hRlocals : (rest.map fun v => v.category).sum + 10240 ≤ R.locals) (hRcells : cells + 1 ≤ R.cells) (hRslots : slots + nb ≤ R.slots) (hlocks : meth.locks = false)
    (k : ∀ (H1 : Heap) (q9 : Addr) (ce : Cell), H.size ≤ H1.size → (∀ q : Nat, q < H.size → H1[q]? = H[q]?) → va_S A s.heap H1 locs → H1[q9]? = some ce → ce.vm = .none → s.vm.findClass "java/lang/NullPointerException" = some ce.cls → vx_W p l e R s m args below meth c H1 locs (cells + 1) (slots + nb) Q (F0 m pc ls rest) q9) :
    vx_NoteN p l e R s m args below meth c H locs cells slots Q (F0 m pc ls rest) := by
  intro T hT X
  have htr : e.platform.stackTraces = false := (show e.platform.stackTraces = l.stackTraces by rw [X.admits.platform]).trans hl
  have Y := vx_rebase X (R' := { frames := R.frames, locals := R.locals, cells := 1, slots := nb }) (Nat.le_refl _) (Nat.le_refl _) hRcells hRslots
  have hhp : ((T.setVm s.vm).setFrames (.invoking m args :: below)).heap = H := hT
  have hW0 : s.WarmedH ((T.setVm s.vm).setFrames (.invoking m args :: below)).vm := State.WarmedH.refl s
  have hat' : ∀ w ∈ vx_atN nb, w.before args ((T.setVm s.vm).setFrames (.invoking m args :: below)) = true := fun w hw => vx_ot_at hW0 rfl (hgood w hw) (hat w hw)
  have hU' : vx_Zq Bundle.tN "UNASSIGNED_STACK" Bundle.steD A ((T.setVm s.vm).setFrames (.invoking m args :: below)) ((T.setVm s.vm).setFrames (.invoking m args :: below)).heap := by rw [hhp]; exact vx_Zq.moved hW0.alike (hU.kept hS.2.1)
  have hN' : vx_Zq Bundle.tN "SUPPRESSED_SENTINEL" Bundle.listD A ((T.setVm s.vm).setFrames (.invoking m args :: below)) ((T.setVm s.vm).setFrames (.invoking m args :: below)).heap := by rw [hhp]; exact vx_Zq.moved hW0.alike (hN.kept hS.2.1)
  obtain ⟨S, q, ce, st, Z, hce, hcl', hv⟩ := vx_npeAt Y hexec htr (n := nb) (vx_own hat' (vx_isRefq hU'.1) (vx_isRefq hN'.1) hU'.2.word hN'.2.word) (fun x hx => nomatch hx)
    (g := F0 m pc ls rest) rfl hsize hRframes (by show 2 * 0 + (rest.map fun v => v.category).sum + 10240 ≤ R.locals; omega) (by show 0 + 1 ≤ 1; omega) (by show 0 + nb ≤ nb; omega) hlocks
  obtain ⟨f1, f2⟩ := vx_frame Z.same
  have f1' : H.size ≤ S.heap.size := by rw [← hT]; exact f1
  have f2' : ∀ q : Nat, q < H.size → S.heap[q]? = H[q]? := fun q hq => by
    rw [← hT]
    exact f2 q (by rw [← hT] at hq; exact hq) (fun z hz => nomatch hz)
  have X5 := vx_back9 X Y Z
  have X6 : Stand p l e R s m args below meth c S locs (cells + 1) (slots + nb) := { X5 with same := X5.same.mono (by omega) (by omega) }
  obtain ⟨t, a1, b1⟩ := k S.heap q ce f1' f2' ⟨Nat.le_trans hS.1 f1', fun q h1 h2 => (f2' q (Nat.lt_of_lt_of_le h1 hS.1)).trans (hS.2.1 q h1 h2), hS.2.2⟩ hce hv hcl' S rfl X6
  exact ⟨t, st t a1, b1⟩
variable {Q : State → Prop} {cc : ByteArray} {pc : Nat} {ls : Array Slot} {rest : List Value}
theorem vx_idivZ (hexec : p.tables.exec = Jvm.exec) (hb : c.code = cc) {a b : Int32} (h0 : b = 0) (d : decode cc pc = .ok (.idiv, 1)) (k : vx_Note p l e R s m args below meth c H locs cells slots Q (F0 m pc ls rest) "java/lang/ArithmeticException" "/ by zero") :
    W p l e R s m args below meth c H locs cells slots Q (F0 m pc ls (.int b :: .int a :: rest)) := by
  intro T hT X
  obtain ⟨t, st, q⟩ := k T hT X
  exact ⟨t, X.idivZero hexec (g := F0 m pc ls (.int b :: .int a :: rest)) rfl (a := a) (rest := rest) (by rw [h0]) (by rw [hb]; exact d) t st, q⟩
theorem vx_iremZ (hexec : p.tables.exec = Jvm.exec) (hb : c.code = cc) {a b : Int32} (h0 : b = 0) (d : decode cc pc = .ok (.irem, 1)) (k : vx_Note p l e R s m args below meth c H locs cells slots Q (F0 m pc ls rest) "java/lang/ArithmeticException" "/ by zero") :
    W p l e R s m args below meth c H locs cells slots Q (F0 m pc ls (.int b :: .int a :: rest)) := by
  intro T hT X
  obtain ⟨t, st, q⟩ := k T hT X
  exact ⟨t, X.iremZero hexec (g := F0 m pc ls (.int b :: .int a :: rest)) rfl (a := a) (rest := rest) (by rw [h0]) (by rw [hb]; exact d) t st, q⟩
theorem vx_ldivZ (hexec : p.tables.exec = Jvm.exec) (hb : c.code = cc) {a b : Int64} (h0 : b = 0) (d : decode cc pc = .ok (.ldiv, 1)) (k : vx_Note p l e R s m args below meth c H locs cells slots Q (F0 m pc ls rest) "java/lang/ArithmeticException" "/ by zero") :
    W p l e R s m args below meth c H locs cells slots Q (F0 m pc ls (.long b :: .long a :: rest)) := by
  intro T hT X
  obtain ⟨t, st, q⟩ := k T hT X
  exact ⟨t, X.ldivZero hexec (g := F0 m pc ls (.long b :: .long a :: rest)) rfl (a := a) (rest := rest) (by rw [h0]) (by rw [hb]; exact d) t st, q⟩
theorem vx_lremZ (hexec : p.tables.exec = Jvm.exec) (hb : c.code = cc) {a b : Int64} (h0 : b = 0) (d : decode cc pc = .ok (.lrem, 1)) (k : vx_Note p l e R s m args below meth c H locs cells slots Q (F0 m pc ls rest) "java/lang/ArithmeticException" "/ by zero") :
    W p l e R s m args below meth c H locs cells slots Q (F0 m pc ls (.long b :: .long a :: rest)) := by
  intro T hT X
  obtain ⟨t, st, q⟩ := k T hT X
  exact ⟨t, X.lremZero hexec (g := F0 m pc ls (.long b :: .long a :: rest)) rfl (a := a) (rest := rest) (by rw [h0]) (by rw [hb]; exact d) t st, q⟩
theorem vx_ialdZ {D : va_G} {cl : List vw_C} {ws : va_W} {tys : List (ClassId × FieldType)} {a : Nat} (hexec : p.tables.exec = Jvm.exec) (hb : c.code = cc) (hK : va_K D cl tys s) (hP : va_P D cl ws H) (q0 t0 : Nat) {cA : ClassId} {n : Nat} {f : Nat → Int32} (ha : ws[q0]? = some (a, .inl (cA, n, .inl f))) (ht : tys[t0]? = some (cA, .int)) {i : Int32} (hout : ¬ vp_in i n) (hdg : decode cc pc = .ok (.iaload, 1))
    (k : ∀ tx : String, tx = (toString "Index " ++ toString i ++ toString " out of bounds for length " ++ toString n : String) → vx_Note p l e R s m args below meth c H locs cells slots Q (F0 m pc ls rest) "java/lang/ArrayIndexOutOfBoundsException" tx) : W p l e R s m args below meth c H locs cells slots Q (F0 m pc ls (.int i :: .ref a :: rest)) := by
  intro T hT X
  obtain ⟨t, st, q⟩ := k _ rfl T hT X
  refine ⟨t, ?_, q⟩
  have h1 := X.ialoadOut hexec (by rw [hT]; exact hP q0 _ ha) ((hK.2 t0 _ ht).1 n (fun j => .int (f j))) (j := i) (by show (i < 0 ∨ (arrV _ _ _).slots.size ≤ _); rw [arrV_size]; exact Classical.byContradiction hout) (g := F0 m pc ls (.int i :: .ref a :: rest)) rfl (rest := rest) rfl (by rw [hb]; exact hdg) t
  simp only [arrV_size] at h1
  exact h1 st
theorem vx_iastZ {D : va_G} {cl : List vw_C} {ws : va_W} {tys : List (ClassId × FieldType)} {a : Nat} (hexec : p.tables.exec = Jvm.exec) (hb : c.code = cc) (hK : va_K D cl tys s) (hP : va_P D cl ws H) (q0 t0 : Nat) {cA : ClassId} {n : Nat} {f : Nat → Int32} (ha : ws[q0]? = some (a, .inl (cA, n, .inl f))) (ht : tys[t0]? = some (cA, .int)) {i : Int32} {x : Int32} (hout : ¬ vp_in i n) (hdg : decode cc pc = .ok (.iastore, 1))
    (k : ∀ tx : String, tx = (toString "Index " ++ toString i ++ toString " out of bounds for length " ++ toString n : String) → vx_Note p l e R s m args below meth c H locs cells slots Q (F0 m pc ls rest) "java/lang/ArrayIndexOutOfBoundsException" tx) : W p l e R s m args below meth c H locs cells slots Q (F0 m pc ls (.int x :: .int i :: .ref a :: rest)) := by
  intro T hT X
  obtain ⟨t, st, q⟩ := k _ rfl T hT X
  refine ⟨t, ?_, q⟩
  have h1 := X.iastoreOut hexec (by rw [hT]; exact hP q0 _ ha) ((hK.2 t0 _ ht).1 n (fun j => .int (f j))) (j := i) (by show (i < 0 ∨ (arrV _ _ _).slots.size ≤ _); rw [arrV_size]; exact Classical.byContradiction hout) (g := F0 m pc ls (.int x :: .int i :: .ref a :: rest)) rfl (rest := rest) rfl (by rw [hb]; exact hdg) t
  simp only [arrV_size] at h1
  exact h1 st
theorem vx_baldZ {D : va_G} {cl : List vw_C} {ws : va_W} {tys : List (ClassId × FieldType)} {a : Nat} (hexec : p.tables.exec = Jvm.exec) (hb : c.code = cc) (hK : va_K D cl tys s) (hP : va_P D cl ws H) (q0 t0 : Nat) {cA : ClassId} {n : Nat} {f : Nat → Int32} (ha : ws[q0]? = some (a, .inl (cA, n, .inl f))) (ht : tys[t0]? = some (cA, .byte)) {i : Int32} (hout : ¬ vp_in i n) (hdg : decode cc pc = .ok (.baload, 1))
    (k : ∀ tx : String, tx = (toString "Index " ++ toString i ++ toString " out of bounds for length " ++ toString n : String) → vx_Note p l e R s m args below meth c H locs cells slots Q (F0 m pc ls rest) "java/lang/ArrayIndexOutOfBoundsException" tx) : W p l e R s m args below meth c H locs cells slots Q (F0 m pc ls (.int i :: .ref a :: rest)) := by
  intro T hT X
  obtain ⟨t, st, q⟩ := k _ rfl T hT X
  refine ⟨t, ?_, q⟩
  have h1 := X.baloadOut hexec (by rw [hT]; exact hP q0 _ ha) ((hK.2 t0 _ ht).1 n (fun j => .int (f j))) (j := i) (by show (i < 0 ∨ (arrV _ _ _).slots.size ≤ _); rw [arrV_size]; exact Classical.byContradiction hout) (g := F0 m pc ls (.int i :: .ref a :: rest)) rfl (rest := rest) rfl (by rw [hb]; exact hdg) t
  simp only [arrV_size] at h1
  exact h1 st
theorem vx_bastZ {D : va_G} {cl : List vw_C} {ws : va_W} {tys : List (ClassId × FieldType)} {a : Nat} (hexec : p.tables.exec = Jvm.exec) (hb : c.code = cc) (hK : va_K D cl tys s) (hP : va_P D cl ws H) (q0 t0 : Nat) {cA : ClassId} {n : Nat} {f : Nat → Int32} (ha : ws[q0]? = some (a, .inl (cA, n, .inl f))) (ht : tys[t0]? = some (cA, .byte)) {i : Int32} {x : Int32} (hout : ¬ vp_in i n) (hdg : decode cc pc = .ok (.bastore, 1))
    (k : ∀ tx : String, tx = (toString "Index " ++ toString i ++ toString " out of bounds for length " ++ toString n : String) → vx_Note p l e R s m args below meth c H locs cells slots Q (F0 m pc ls rest) "java/lang/ArrayIndexOutOfBoundsException" tx) : W p l e R s m args below meth c H locs cells slots Q (F0 m pc ls (.int x :: .int i :: .ref a :: rest)) := by
  intro T hT X
  obtain ⟨t, st, q⟩ := k _ rfl T hT X
  refine ⟨t, ?_, q⟩
  have h1 := X.bastoreOut hexec (by rw [hT]; exact hP q0 _ ha) ((hK.2 t0 _ ht).1 n (fun j => .int (f j))) (j := i) (by show (i < 0 ∨ (arrV _ _ _).slots.size ≤ _); rw [arrV_size]; exact Classical.byContradiction hout) (g := F0 m pc ls (.int x :: .int i :: .ref a :: rest)) rfl (rest := rest) rfl (by rw [hb]; exact hdg) t
  simp only [arrV_size] at h1
  exact h1 st
theorem vx_zaldZ {D : va_G} {cl : List vw_C} {ws : va_W} {tys : List (ClassId × FieldType)} {a : Nat} (hexec : p.tables.exec = Jvm.exec) (hb : c.code = cc) (hK : va_K D cl tys s) (hP : va_P D cl ws H) (q0 t0 : Nat) {cA : ClassId} {n : Nat} {f : Nat → Int32} (ha : ws[q0]? = some (a, .inl (cA, n, .inl f))) (ht : tys[t0]? = some (cA, .boolean)) {i : Int32} (hout : ¬ vp_in i n) (hdg : decode cc pc = .ok (.baload, 1))
    (k : ∀ tx : String, tx = (toString "Index " ++ toString i ++ toString " out of bounds for length " ++ toString n : String) → vx_Note p l e R s m args below meth c H locs cells slots Q (F0 m pc ls rest) "java/lang/ArrayIndexOutOfBoundsException" tx) : W p l e R s m args below meth c H locs cells slots Q (F0 m pc ls (.int i :: .ref a :: rest)) := by
  intro T hT X
  obtain ⟨t, st, q⟩ := k _ rfl T hT X
  refine ⟨t, ?_, q⟩
  have h1 := X.baloadOut hexec (by rw [hT]; exact hP q0 _ ha) ((hK.2 t0 _ ht).1 n (fun j => .int (f j))) (j := i) (by show (i < 0 ∨ (arrV _ _ _).slots.size ≤ _); rw [arrV_size]; exact Classical.byContradiction hout) (g := F0 m pc ls (.int i :: .ref a :: rest)) rfl (rest := rest) rfl (by rw [hb]; exact hdg) t
  simp only [arrV_size] at h1
  exact h1 st
theorem vx_zastZ {D : va_G} {cl : List vw_C} {ws : va_W} {tys : List (ClassId × FieldType)} {a : Nat} (hexec : p.tables.exec = Jvm.exec) (hb : c.code = cc) (hK : va_K D cl tys s) (hP : va_P D cl ws H) (q0 t0 : Nat) {cA : ClassId} {n : Nat} {f : Nat → Int32} (ha : ws[q0]? = some (a, .inl (cA, n, .inl f))) (ht : tys[t0]? = some (cA, .boolean)) {i : Int32} {x : Int32} (hout : ¬ vp_in i n) (hdg : decode cc pc = .ok (.bastore, 1))
    (k : ∀ tx : String, tx = (toString "Index " ++ toString i ++ toString " out of bounds for length " ++ toString n : String) → vx_Note p l e R s m args below meth c H locs cells slots Q (F0 m pc ls rest) "java/lang/ArrayIndexOutOfBoundsException" tx) : W p l e R s m args below meth c H locs cells slots Q (F0 m pc ls (.int x :: .int i :: .ref a :: rest)) := by
  intro T hT X
  obtain ⟨t, st, q⟩ := k _ rfl T hT X
  refine ⟨t, ?_, q⟩
  have h1 := X.bastoreOut hexec (by rw [hT]; exact hP q0 _ ha) ((hK.2 t0 _ ht).1 n (fun j => .int (f j))) (j := i) (by show (i < 0 ∨ (arrV _ _ _).slots.size ≤ _); rw [arrV_size]; exact Classical.byContradiction hout) (g := F0 m pc ls (.int x :: .int i :: .ref a :: rest)) rfl (rest := rest) rfl (by rw [hb]; exact hdg) t
  simp only [arrV_size] at h1
  exact h1 st
theorem vx_caldZ {D : va_G} {cl : List vw_C} {ws : va_W} {tys : List (ClassId × FieldType)} {a : Nat} (hexec : p.tables.exec = Jvm.exec) (hb : c.code = cc) (hK : va_K D cl tys s) (hP : va_P D cl ws H) (q0 t0 : Nat) {cA : ClassId} {n : Nat} {f : Nat → Int32} (ha : ws[q0]? = some (a, .inl (cA, n, .inl f))) (ht : tys[t0]? = some (cA, .char)) {i : Int32} (hout : ¬ vp_in i n) (hdg : decode cc pc = .ok (.caload, 1))
    (k : ∀ tx : String, tx = (toString "Index " ++ toString i ++ toString " out of bounds for length " ++ toString n : String) → vx_Note p l e R s m args below meth c H locs cells slots Q (F0 m pc ls rest) "java/lang/ArrayIndexOutOfBoundsException" tx) : W p l e R s m args below meth c H locs cells slots Q (F0 m pc ls (.int i :: .ref a :: rest)) := by
  intro T hT X
  obtain ⟨t, st, q⟩ := k _ rfl T hT X
  refine ⟨t, ?_, q⟩
  have h1 := X.caloadOut hexec (by rw [hT]; exact hP q0 _ ha) ((hK.2 t0 _ ht).1 n (fun j => .int (f j))) (j := i) (by show (i < 0 ∨ (arrV _ _ _).slots.size ≤ _); rw [arrV_size]; exact Classical.byContradiction hout) (g := F0 m pc ls (.int i :: .ref a :: rest)) rfl (rest := rest) rfl (by rw [hb]; exact hdg) t
  simp only [arrV_size] at h1
  exact h1 st
theorem vx_castZ {D : va_G} {cl : List vw_C} {ws : va_W} {tys : List (ClassId × FieldType)} {a : Nat} (hexec : p.tables.exec = Jvm.exec) (hb : c.code = cc) (hK : va_K D cl tys s) (hP : va_P D cl ws H) (q0 t0 : Nat) {cA : ClassId} {n : Nat} {f : Nat → Int32} (ha : ws[q0]? = some (a, .inl (cA, n, .inl f))) (ht : tys[t0]? = some (cA, .char)) {i : Int32} {x : Int32} (hout : ¬ vp_in i n) (hdg : decode cc pc = .ok (.castore, 1))
    (k : ∀ tx : String, tx = (toString "Index " ++ toString i ++ toString " out of bounds for length " ++ toString n : String) → vx_Note p l e R s m args below meth c H locs cells slots Q (F0 m pc ls rest) "java/lang/ArrayIndexOutOfBoundsException" tx) : W p l e R s m args below meth c H locs cells slots Q (F0 m pc ls (.int x :: .int i :: .ref a :: rest)) := by
  intro T hT X
  obtain ⟨t, st, q⟩ := k _ rfl T hT X
  refine ⟨t, ?_, q⟩
  have h1 := X.castoreOut hexec (by rw [hT]; exact hP q0 _ ha) ((hK.2 t0 _ ht).1 n (fun j => .int (f j))) (j := i) (by show (i < 0 ∨ (arrV _ _ _).slots.size ≤ _); rw [arrV_size]; exact Classical.byContradiction hout) (g := F0 m pc ls (.int x :: .int i :: .ref a :: rest)) rfl (rest := rest) rfl (by rw [hb]; exact hdg) t
  simp only [arrV_size] at h1
  exact h1 st
theorem vx_saldZ {D : va_G} {cl : List vw_C} {ws : va_W} {tys : List (ClassId × FieldType)} {a : Nat} (hexec : p.tables.exec = Jvm.exec) (hb : c.code = cc) (hK : va_K D cl tys s) (hP : va_P D cl ws H) (q0 t0 : Nat) {cA : ClassId} {n : Nat} {f : Nat → Int32} (ha : ws[q0]? = some (a, .inl (cA, n, .inl f))) (ht : tys[t0]? = some (cA, .short)) {i : Int32} (hout : ¬ vp_in i n) (hdg : decode cc pc = .ok (.saload, 1))
    (k : ∀ tx : String, tx = (toString "Index " ++ toString i ++ toString " out of bounds for length " ++ toString n : String) → vx_Note p l e R s m args below meth c H locs cells slots Q (F0 m pc ls rest) "java/lang/ArrayIndexOutOfBoundsException" tx) : W p l e R s m args below meth c H locs cells slots Q (F0 m pc ls (.int i :: .ref a :: rest)) := by
  intro T hT X
  obtain ⟨t, st, q⟩ := k _ rfl T hT X
  refine ⟨t, ?_, q⟩
  have h1 := X.saloadOut hexec (by rw [hT]; exact hP q0 _ ha) ((hK.2 t0 _ ht).1 n (fun j => .int (f j))) (j := i) (by show (i < 0 ∨ (arrV _ _ _).slots.size ≤ _); rw [arrV_size]; exact Classical.byContradiction hout) (g := F0 m pc ls (.int i :: .ref a :: rest)) rfl (rest := rest) rfl (by rw [hb]; exact hdg) t
  simp only [arrV_size] at h1
  exact h1 st
theorem vx_sastZ {D : va_G} {cl : List vw_C} {ws : va_W} {tys : List (ClassId × FieldType)} {a : Nat} (hexec : p.tables.exec = Jvm.exec) (hb : c.code = cc) (hK : va_K D cl tys s) (hP : va_P D cl ws H) (q0 t0 : Nat) {cA : ClassId} {n : Nat} {f : Nat → Int32} (ha : ws[q0]? = some (a, .inl (cA, n, .inl f))) (ht : tys[t0]? = some (cA, .short)) {i : Int32} {x : Int32} (hout : ¬ vp_in i n) (hdg : decode cc pc = .ok (.sastore, 1))
    (k : ∀ tx : String, tx = (toString "Index " ++ toString i ++ toString " out of bounds for length " ++ toString n : String) → vx_Note p l e R s m args below meth c H locs cells slots Q (F0 m pc ls rest) "java/lang/ArrayIndexOutOfBoundsException" tx) : W p l e R s m args below meth c H locs cells slots Q (F0 m pc ls (.int x :: .int i :: .ref a :: rest)) := by
  intro T hT X
  obtain ⟨t, st, q⟩ := k _ rfl T hT X
  refine ⟨t, ?_, q⟩
  have h1 := X.sastoreOut hexec (by rw [hT]; exact hP q0 _ ha) ((hK.2 t0 _ ht).1 n (fun j => .int (f j))) (j := i) (by show (i < 0 ∨ (arrV _ _ _).slots.size ≤ _); rw [arrV_size]; exact Classical.byContradiction hout) (g := F0 m pc ls (.int x :: .int i :: .ref a :: rest)) rfl (rest := rest) rfl (by rw [hb]; exact hdg) t
  simp only [arrV_size] at h1
  exact h1 st
theorem vx_laldZ {D : va_G} {cl : List vw_C} {ws : va_W} {tys : List (ClassId × FieldType)} {a : Nat} (hexec : p.tables.exec = Jvm.exec) (hb : c.code = cc) (hK : va_K D cl tys s) (hP : va_P D cl ws H) (q0 t0 : Nat) {cA : ClassId} {n : Nat} {f : Nat → Int64} (ha : ws[q0]? = some (a, .inl (cA, n, .inr (.inl f)))) (ht : tys[t0]? = some (cA, .long)) {i : Int32} (hout : ¬ vp_in i n) (hdg : decode cc pc = .ok (.laload, 1))
    (k : ∀ tx : String, tx = (toString "Index " ++ toString i ++ toString " out of bounds for length " ++ toString n : String) → vx_Note p l e R s m args below meth c H locs cells slots Q (F0 m pc ls rest) "java/lang/ArrayIndexOutOfBoundsException" tx) : W p l e R s m args below meth c H locs cells slots Q (F0 m pc ls (.int i :: .ref a :: rest)) := by
  intro T hT X
  obtain ⟨t, st, q⟩ := k _ rfl T hT X
  refine ⟨t, ?_, q⟩
  have h1 := X.laloadOut hexec (by rw [hT]; exact hP q0 _ ha) ((hK.2 t0 _ ht).1 n (fun j => .long (f j))) (j := i) (by show (i < 0 ∨ (arrV _ _ _).slots.size ≤ _); rw [arrV_size]; exact Classical.byContradiction hout) (g := F0 m pc ls (.int i :: .ref a :: rest)) rfl (rest := rest) rfl (by rw [hb]; exact hdg) t
  simp only [arrV_size] at h1
  exact h1 st
theorem vx_lastZ {D : va_G} {cl : List vw_C} {ws : va_W} {tys : List (ClassId × FieldType)} {a : Nat} (hexec : p.tables.exec = Jvm.exec) (hb : c.code = cc) (hK : va_K D cl tys s) (hP : va_P D cl ws H) (q0 t0 : Nat) {cA : ClassId} {n : Nat} {f : Nat → Int64} (ha : ws[q0]? = some (a, .inl (cA, n, .inr (.inl f)))) (ht : tys[t0]? = some (cA, .long)) {i : Int32} {x : Int64} (hout : ¬ vp_in i n) (hdg : decode cc pc = .ok (.lastore, 1))
    (k : ∀ tx : String, tx = (toString "Index " ++ toString i ++ toString " out of bounds for length " ++ toString n : String) → vx_Note p l e R s m args below meth c H locs cells slots Q (F0 m pc ls rest) "java/lang/ArrayIndexOutOfBoundsException" tx) : W p l e R s m args below meth c H locs cells slots Q (F0 m pc ls (.long x :: .int i :: .ref a :: rest)) := by
  intro T hT X
  obtain ⟨t, st, q⟩ := k _ rfl T hT X
  refine ⟨t, ?_, q⟩
  have h1 := X.lastoreOut hexec (by rw [hT]; exact hP q0 _ ha) ((hK.2 t0 _ ht).1 n (fun j => .long (f j))) (j := i) (by show (i < 0 ∨ (arrV _ _ _).slots.size ≤ _); rw [arrV_size]; exact Classical.byContradiction hout) (g := F0 m pc ls (.long x :: .int i :: .ref a :: rest)) rfl (rest := rest) rfl (by rw [hb]; exact hdg) t
  simp only [arrV_size] at h1
  exact h1 st
theorem vx_faldZ {D : va_G} {cl : List vw_C} {ws : va_W} {tys : List (ClassId × FieldType)} {a : Nat} (hexec : p.tables.exec = Jvm.exec) (hb : c.code = cc) (hK : va_K D cl tys s) (hP : va_P D cl ws H) (q0 t0 : Nat) {cA : ClassId} {n : Nat} {f : Nat → UInt32} (ha : ws[q0]? = some (a, .inl (cA, n, .inr (.inr (.inl f))))) (ht : tys[t0]? = some (cA, .float)) {i : Int32} (hout : ¬ vp_in i n) (hdg : decode cc pc = .ok (.faload, 1))
    (k : ∀ tx : String, tx = (toString "Index " ++ toString i ++ toString " out of bounds for length " ++ toString n : String) → vx_Note p l e R s m args below meth c H locs cells slots Q (F0 m pc ls rest) "java/lang/ArrayIndexOutOfBoundsException" tx) : W p l e R s m args below meth c H locs cells slots Q (F0 m pc ls (.int i :: .ref a :: rest)) := by
  intro T hT X
  obtain ⟨t, st, q⟩ := k _ rfl T hT X
  refine ⟨t, ?_, q⟩
  have h1 := X.faloadOut hexec (by rw [hT]; exact hP q0 _ ha) ((hK.2 t0 _ ht).1 n (fun j => .float (f j))) (j := i) (by show (i < 0 ∨ (arrV _ _ _).slots.size ≤ _); rw [arrV_size]; exact Classical.byContradiction hout) (g := F0 m pc ls (.int i :: .ref a :: rest)) rfl (rest := rest) rfl (by rw [hb]; exact hdg) t
  simp only [arrV_size] at h1
  exact h1 st
theorem vx_fastZ {D : va_G} {cl : List vw_C} {ws : va_W} {tys : List (ClassId × FieldType)} {a : Nat} (hexec : p.tables.exec = Jvm.exec) (hb : c.code = cc) (hK : va_K D cl tys s) (hP : va_P D cl ws H) (q0 t0 : Nat) {cA : ClassId} {n : Nat} {f : Nat → UInt32} (ha : ws[q0]? = some (a, .inl (cA, n, .inr (.inr (.inl f))))) (ht : tys[t0]? = some (cA, .float)) {i : Int32} {x : UInt32} (hout : ¬ vp_in i n) (hdg : decode cc pc = .ok (.fastore, 1))
    (k : ∀ tx : String, tx = (toString "Index " ++ toString i ++ toString " out of bounds for length " ++ toString n : String) → vx_Note p l e R s m args below meth c H locs cells slots Q (F0 m pc ls rest) "java/lang/ArrayIndexOutOfBoundsException" tx) : W p l e R s m args below meth c H locs cells slots Q (F0 m pc ls (.float x :: .int i :: .ref a :: rest)) := by
  intro T hT X
  obtain ⟨t, st, q⟩ := k _ rfl T hT X
  refine ⟨t, ?_, q⟩
  have h1 := X.fastoreOut hexec (by rw [hT]; exact hP q0 _ ha) ((hK.2 t0 _ ht).1 n (fun j => .float (f j))) (j := i) (by show (i < 0 ∨ (arrV _ _ _).slots.size ≤ _); rw [arrV_size]; exact Classical.byContradiction hout) (g := F0 m pc ls (.float x :: .int i :: .ref a :: rest)) rfl (rest := rest) rfl (by rw [hb]; exact hdg) t
  simp only [arrV_size] at h1
  exact h1 st
theorem vx_daldZ {D : va_G} {cl : List vw_C} {ws : va_W} {tys : List (ClassId × FieldType)} {a : Nat} (hexec : p.tables.exec = Jvm.exec) (hb : c.code = cc) (hK : va_K D cl tys s) (hP : va_P D cl ws H) (q0 t0 : Nat) {cA : ClassId} {n : Nat} {f : Nat → UInt64} (ha : ws[q0]? = some (a, .inl (cA, n, .inr (.inr (.inr (.inl f)))))) (ht : tys[t0]? = some (cA, .double)) {i : Int32} (hout : ¬ vp_in i n) (hdg : decode cc pc = .ok (.daload, 1))
    (k : ∀ tx : String, tx = (toString "Index " ++ toString i ++ toString " out of bounds for length " ++ toString n : String) → vx_Note p l e R s m args below meth c H locs cells slots Q (F0 m pc ls rest) "java/lang/ArrayIndexOutOfBoundsException" tx) : W p l e R s m args below meth c H locs cells slots Q (F0 m pc ls (.int i :: .ref a :: rest)) := by
  intro T hT X
  obtain ⟨t, st, q⟩ := k _ rfl T hT X
  refine ⟨t, ?_, q⟩
  have h1 := X.daloadOut hexec (by rw [hT]; exact hP q0 _ ha) ((hK.2 t0 _ ht).1 n (fun j => .double (f j))) (j := i) (by show (i < 0 ∨ (arrV _ _ _).slots.size ≤ _); rw [arrV_size]; exact Classical.byContradiction hout) (g := F0 m pc ls (.int i :: .ref a :: rest)) rfl (rest := rest) rfl (by rw [hb]; exact hdg) t
  simp only [arrV_size] at h1
  exact h1 st
theorem vx_dastZ {D : va_G} {cl : List vw_C} {ws : va_W} {tys : List (ClassId × FieldType)} {a : Nat} (hexec : p.tables.exec = Jvm.exec) (hb : c.code = cc) (hK : va_K D cl tys s) (hP : va_P D cl ws H) (q0 t0 : Nat) {cA : ClassId} {n : Nat} {f : Nat → UInt64} (ha : ws[q0]? = some (a, .inl (cA, n, .inr (.inr (.inr (.inl f)))))) (ht : tys[t0]? = some (cA, .double)) {i : Int32} {x : UInt64} (hout : ¬ vp_in i n) (hdg : decode cc pc = .ok (.dastore, 1))
    (k : ∀ tx : String, tx = (toString "Index " ++ toString i ++ toString " out of bounds for length " ++ toString n : String) → vx_Note p l e R s m args below meth c H locs cells slots Q (F0 m pc ls rest) "java/lang/ArrayIndexOutOfBoundsException" tx) : W p l e R s m args below meth c H locs cells slots Q (F0 m pc ls (.double x :: .int i :: .ref a :: rest)) := by
  intro T hT X
  obtain ⟨t, st, q⟩ := k _ rfl T hT X
  refine ⟨t, ?_, q⟩
  have h1 := X.dastoreOut hexec (by rw [hT]; exact hP q0 _ ha) ((hK.2 t0 _ ht).1 n (fun j => .double (f j))) (j := i) (by show (i < 0 ∨ (arrV _ _ _).slots.size ≤ _); rw [arrV_size]; exact Classical.byContradiction hout) (g := F0 m pc ls (.double x :: .int i :: .ref a :: rest)) rfl (rest := rest) rfl (by rw [hb]; exact hdg) t
  simp only [arrV_size] at h1
  exact h1 st
theorem vx_arraylengthN (hexec : p.tables.exec = Jvm.exec) (hb : c.code = cc) (hdg : decode cc pc = .ok (.arraylength, 1)) (k : vx_NoteN p l e R s m args below meth c H locs cells slots Q (F0 m pc ls rest)) : W p l e R s m args below meth c H locs cells slots Q (F0 m pc ls (.null :: rest)) := by
  intro T hT X
  obtain ⟨t, st, q⟩ := k T hT X
  exact ⟨t, X.arraylengthNull hexec (g := F0 m pc ls (.null :: rest)) rfl (rest := rest) rfl (by rw [hb]; exact hdg) t st, q⟩
theorem vx_ialoadN (hexec : p.tables.exec = Jvm.exec) (hb : c.code = cc) {i : Int32} (hdg : decode cc pc = .ok (.iaload, 1)) (k : vx_NoteN p l e R s m args below meth c H locs cells slots Q (F0 m pc ls rest)) : W p l e R s m args below meth c H locs cells slots Q (F0 m pc ls (.int i :: .null :: rest)) := by
  intro T hT X
  obtain ⟨t, st, q⟩ := k T hT X
  exact ⟨t, X.ialoadNull hexec (g := F0 m pc ls (.int i :: .null :: rest)) rfl (rest := rest) rfl (by rw [hb]; exact hdg) t st, q⟩
theorem vx_laloadN (hexec : p.tables.exec = Jvm.exec) (hb : c.code = cc) {i : Int32} (hdg : decode cc pc = .ok (.laload, 1)) (k : vx_NoteN p l e R s m args below meth c H locs cells slots Q (F0 m pc ls rest)) : W p l e R s m args below meth c H locs cells slots Q (F0 m pc ls (.int i :: .null :: rest)) := by
  intro T hT X
  obtain ⟨t, st, q⟩ := k T hT X
  exact ⟨t, X.laloadNull hexec (g := F0 m pc ls (.int i :: .null :: rest)) rfl (rest := rest) rfl (by rw [hb]; exact hdg) t st, q⟩
theorem vx_faloadN (hexec : p.tables.exec = Jvm.exec) (hb : c.code = cc) {i : Int32} (hdg : decode cc pc = .ok (.faload, 1)) (k : vx_NoteN p l e R s m args below meth c H locs cells slots Q (F0 m pc ls rest)) : W p l e R s m args below meth c H locs cells slots Q (F0 m pc ls (.int i :: .null :: rest)) := by
  intro T hT X
  obtain ⟨t, st, q⟩ := k T hT X
  exact ⟨t, X.faloadNull hexec (g := F0 m pc ls (.int i :: .null :: rest)) rfl (rest := rest) rfl (by rw [hb]; exact hdg) t st, q⟩
theorem vx_daloadN (hexec : p.tables.exec = Jvm.exec) (hb : c.code = cc) {i : Int32} (hdg : decode cc pc = .ok (.daload, 1)) (k : vx_NoteN p l e R s m args below meth c H locs cells slots Q (F0 m pc ls rest)) : W p l e R s m args below meth c H locs cells slots Q (F0 m pc ls (.int i :: .null :: rest)) := by
  intro T hT X
  obtain ⟨t, st, q⟩ := k T hT X
  exact ⟨t, X.daloadNull hexec (g := F0 m pc ls (.int i :: .null :: rest)) rfl (rest := rest) rfl (by rw [hb]; exact hdg) t st, q⟩
theorem vx_aaloadN (hexec : p.tables.exec = Jvm.exec) (hb : c.code = cc) {i : Int32} (hdg : decode cc pc = .ok (.aaload, 1)) (k : vx_NoteN p l e R s m args below meth c H locs cells slots Q (F0 m pc ls rest)) : W p l e R s m args below meth c H locs cells slots Q (F0 m pc ls (.int i :: .null :: rest)) := by
  intro T hT X
  obtain ⟨t, st, q⟩ := k T hT X
  exact ⟨t, X.aaloadNull hexec (g := F0 m pc ls (.int i :: .null :: rest)) rfl (rest := rest) rfl (by rw [hb]; exact hdg) t st, q⟩
theorem vx_baloadN (hexec : p.tables.exec = Jvm.exec) (hb : c.code = cc) {i : Int32} (hdg : decode cc pc = .ok (.baload, 1)) (k : vx_NoteN p l e R s m args below meth c H locs cells slots Q (F0 m pc ls rest)) : W p l e R s m args below meth c H locs cells slots Q (F0 m pc ls (.int i :: .null :: rest)) := by
  intro T hT X
  obtain ⟨t, st, q⟩ := k T hT X
  exact ⟨t, X.baloadNull hexec (g := F0 m pc ls (.int i :: .null :: rest)) rfl (rest := rest) rfl (by rw [hb]; exact hdg) t st, q⟩
theorem vx_caloadN (hexec : p.tables.exec = Jvm.exec) (hb : c.code = cc) {i : Int32} (hdg : decode cc pc = .ok (.caload, 1)) (k : vx_NoteN p l e R s m args below meth c H locs cells slots Q (F0 m pc ls rest)) : W p l e R s m args below meth c H locs cells slots Q (F0 m pc ls (.int i :: .null :: rest)) := by
  intro T hT X
  obtain ⟨t, st, q⟩ := k T hT X
  exact ⟨t, X.caloadNull hexec (g := F0 m pc ls (.int i :: .null :: rest)) rfl (rest := rest) rfl (by rw [hb]; exact hdg) t st, q⟩
theorem vx_saloadN (hexec : p.tables.exec = Jvm.exec) (hb : c.code = cc) {i : Int32} (hdg : decode cc pc = .ok (.saload, 1)) (k : vx_NoteN p l e R s m args below meth c H locs cells slots Q (F0 m pc ls rest)) : W p l e R s m args below meth c H locs cells slots Q (F0 m pc ls (.int i :: .null :: rest)) := by
  intro T hT X
  obtain ⟨t, st, q⟩ := k T hT X
  exact ⟨t, X.saloadNull hexec (g := F0 m pc ls (.int i :: .null :: rest)) rfl (rest := rest) rfl (by rw [hb]; exact hdg) t st, q⟩
theorem vx_iastoreN (hexec : p.tables.exec = Jvm.exec) (hb : c.code = cc) {x : Int32} {i : Int32} (hdg : decode cc pc = .ok (.iastore, 1)) (k : vx_NoteN p l e R s m args below meth c H locs cells slots Q (F0 m pc ls rest)) : W p l e R s m args below meth c H locs cells slots Q (F0 m pc ls (.int x :: .int i :: .null :: rest)) := by
  intro T hT X
  obtain ⟨t, st, q⟩ := k T hT X
  exact ⟨t, X.iastoreNull hexec (g := F0 m pc ls (.int x :: .int i :: .null :: rest)) rfl (rest := rest) rfl (by rw [hb]; exact hdg) t st, q⟩
theorem vx_lastoreN (hexec : p.tables.exec = Jvm.exec) (hb : c.code = cc) {x : Int64} {i : Int32} (hdg : decode cc pc = .ok (.lastore, 1)) (k : vx_NoteN p l e R s m args below meth c H locs cells slots Q (F0 m pc ls rest)) : W p l e R s m args below meth c H locs cells slots Q (F0 m pc ls (.long x :: .int i :: .null :: rest)) := by
  intro T hT X
  obtain ⟨t, st, q⟩ := k T hT X
  exact ⟨t, X.lastoreNull hexec (g := F0 m pc ls (.long x :: .int i :: .null :: rest)) rfl (rest := rest) rfl (by rw [hb]; exact hdg) t st, q⟩
theorem vx_fastoreN (hexec : p.tables.exec = Jvm.exec) (hb : c.code = cc) {x : UInt32} {i : Int32} (hdg : decode cc pc = .ok (.fastore, 1)) (k : vx_NoteN p l e R s m args below meth c H locs cells slots Q (F0 m pc ls rest)) : W p l e R s m args below meth c H locs cells slots Q (F0 m pc ls (.float x :: .int i :: .null :: rest)) := by
  intro T hT X
  obtain ⟨t, st, q⟩ := k T hT X
  exact ⟨t, X.fastoreNull hexec (g := F0 m pc ls (.float x :: .int i :: .null :: rest)) rfl (rest := rest) rfl (by rw [hb]; exact hdg) t st, q⟩
theorem vx_dastoreN (hexec : p.tables.exec = Jvm.exec) (hb : c.code = cc) {x : UInt64} {i : Int32} (hdg : decode cc pc = .ok (.dastore, 1)) (k : vx_NoteN p l e R s m args below meth c H locs cells slots Q (F0 m pc ls rest)) : W p l e R s m args below meth c H locs cells slots Q (F0 m pc ls (.double x :: .int i :: .null :: rest)) := by
  intro T hT X
  obtain ⟨t, st, q⟩ := k T hT X
  exact ⟨t, X.dastoreNull hexec (g := F0 m pc ls (.double x :: .int i :: .null :: rest)) rfl (rest := rest) rfl (by rw [hb]; exact hdg) t st, q⟩
theorem vx_bastoreN (hexec : p.tables.exec = Jvm.exec) (hb : c.code = cc) {x : Int32} {i : Int32} (hdg : decode cc pc = .ok (.bastore, 1)) (k : vx_NoteN p l e R s m args below meth c H locs cells slots Q (F0 m pc ls rest)) : W p l e R s m args below meth c H locs cells slots Q (F0 m pc ls (.int x :: .int i :: .null :: rest)) := by
  intro T hT X
  obtain ⟨t, st, q⟩ := k T hT X
  exact ⟨t, X.bastoreNull hexec (g := F0 m pc ls (.int x :: .int i :: .null :: rest)) rfl (rest := rest) rfl (by rw [hb]; exact hdg) t st, q⟩
theorem vx_castoreN (hexec : p.tables.exec = Jvm.exec) (hb : c.code = cc) {x : Int32} {i : Int32} (hdg : decode cc pc = .ok (.castore, 1)) (k : vx_NoteN p l e R s m args below meth c H locs cells slots Q (F0 m pc ls rest)) : W p l e R s m args below meth c H locs cells slots Q (F0 m pc ls (.int x :: .int i :: .null :: rest)) := by
  intro T hT X
  obtain ⟨t, st, q⟩ := k T hT X
  exact ⟨t, X.castoreNull hexec (g := F0 m pc ls (.int x :: .int i :: .null :: rest)) rfl (rest := rest) rfl (by rw [hb]; exact hdg) t st, q⟩
theorem vx_sastoreN (hexec : p.tables.exec = Jvm.exec) (hb : c.code = cc) {x : Int32} {i : Int32} (hdg : decode cc pc = .ok (.sastore, 1)) (k : vx_NoteN p l e R s m args below meth c H locs cells slots Q (F0 m pc ls rest)) : W p l e R s m args below meth c H locs cells slots Q (F0 m pc ls (.int x :: .int i :: .null :: rest)) := by
  intro T hT X
  obtain ⟨t, st, q⟩ := k T hT X
  exact ⟨t, X.sastoreNull hexec (g := F0 m pc ls (.int x :: .int i :: .null :: rest)) rfl (rest := rest) rfl (by rw [hb]; exact hdg) t st, q⟩
theorem vx_invokeN {own C : String} {index maxL : Nat} {y : MethodName} {bytes : ByteArray} {ret : Option FieldType} (hexec : p.tables.exec = Jvm.exec) (hb : c.code = cc) (hown : s.vm.findClass own = some m.cls) (hlink : (Cond.methodLink own index y).before args s = true) (hinst : (Cond.instanceMethod y).before args s = true) (hcode : (Cond.code y bytes maxL ret).before args s = true) (hsel : (Cond.selects C y y).before args s = true)
    (hx : y.cls ≠ "java/lang/invoke/MethodHandle" ∧ y.cls ≠ "java/lang/invoke/VarHandle") {As : List Value} (hlen : (parseMethodDescriptor y.desc).map (fun d => d.parameters.length) = some As.length) (hdg : decode cc pc = .ok (.invokevirtual index, 3))
    (k : vx_NoteN p l e R s m args below meth c H locs cells slots Q (F0 m pc ls rest)) {st0 : List Value} (hst : st0 = As.reverse ++ .null :: rest) : W p l e R s m args below meth c H locs cells slots Q (F0 m pc ls st0) := by
  intro T hT X
  obtain ⟨r0, r, hn, hrm, hstR, hsigR⟩ := va_Decl.of hinst hcode
  obtain ⟨c2, r2, m2, q1, q2, q3, q4, kP, hkP, hkPi⟩ := Cond.selects_spec hsel
  cases hn.symm.trans q3
  have hl9 : As.length = r.sig.parameters.length := by
    rw [hsigR] at hlen
    exact (Option.some.inj hlen).symm
  obtain ⟨vm', X1, st1⟩ := X.invokevirtualNull hexec hown hlink hn hrm hstR hkP hkPi hx (g := F0 m pc ls st0) rfl (argsL := As) (rest := rest) hl9 hst (by rw [hb]; exact hdg)
  obtain ⟨t, st, q⟩ := k (T.setVm vm') hT X1
  exact ⟨t, st1 t st, q⟩
theorem vx_newarrayZ {atype : ArrayType} (hexec : p.tables.exec = Jvm.exec) (hb : c.code = cc) {n : Int32} (h0 : n < 0) (hdg : decode cc pc = .ok (.newarray atype, 2)) (k : ∀ tx : String, tx = toString n → vx_Note p l e R s m args below meth c H locs cells slots Q (F0 m pc ls rest) "java/lang/NegativeArraySizeException" tx) : W p l e R s m args below meth c H locs cells slots Q (F0 m pc ls (.int n :: rest)) := by
  intro T hT X
  obtain ⟨t, st, q⟩ := k _ rfl T hT X
  exact ⟨t, X.newarrayNegative hexec (g := F0 m pc ls (.int n :: rest)) rfl h0 (rest := rest) rfl (by rw [hb]; exact hdg) t st, q⟩
end
end VXM
/-! ===== END ===== -/

/-! ===== BEGIN printed: names, fields, word lists, decode rows ===== -/
def RX0 : String := "Hundredward$Book"
def TX0 : u_T := fun k => match k with
  | 0 => ("Hundredward$Book", "balances", "[I", true)
  | 1 => ("Hundredward$Book", "sums", "[I", true)
  | 2 => ("Hundredward$Book", "journal", "[I", false)
  | _ => ("Hundredward$Book", "count", "I", false)
def tyX0 : Nat → FieldType := fun k => match k with
  | 0 => .array .int
  | 1 => .array .int
  | 2 => .array .int
  | _ => .int
abbrev wsX00 : List Cond := u_ws RX0 TX0 4
theorem nmX0 : ∀ a, a < 4 → ∀ b, b < 4 → a ≠ b → (TX0 a).2.1 ≠ (TX0 b).2.1 := by decide +kernel
theorem tyX0_ok : ∀ k, k < 4 → parseFieldDescriptor (TX0 k).2.2.1 = some (tyX0 k) := by decide +kernel
abbrev cX0_init : ByteArray := prog_2_method_1_code
def yX0_init : MethodName := ⟨RX0, "<init>", "()V"⟩
abbrev cX0_balanceOf : ByteArray := prog_2_method_3_code
def yX0_balanceOf : MethodName := ⟨RX0, "balanceOf", "(I)I"⟩
abbrev cX0_has : ByteArray := prog_2_method_4_code
def yX0_has : MethodName := ⟨RX0, "has", "(II)Z"⟩
abbrev cX0_pay : ByteArray := prog_2_method_5_code
def yX0_pay : MethodName := ⟨RX0, "pay", "(III)V"⟩
abbrev cX0_addTo : ByteArray := prog_2_method_6_code
def yX0_addTo : MethodName := ⟨RX0, "addTo", "([III)V"⟩
abbrev cX0_record : ByteArray := prog_2_method_7_code
def yX0_record : MethodName := ⟨RX0, "record", "(I)V"⟩
abbrev cX0_holds : ByteArray := prog_2_method_8_code
def yX0_holds : MethodName := ⟨RX0, "holds", "(I)Z"⟩
abbrev cX0_payerIn : ByteArray := prog_2_method_9_code
def yX0_payerIn : MethodName := ⟨RX0, "payerIn", "(I)I"⟩
abbrev cX0_payeeIn : ByteArray := prog_2_method_10_code
def yX0_payeeIn : MethodName := ⟨RX0, "payeeIn", "(I)I"⟩
abbrev cX0_amountIn : ByteArray := prog_2_method_11_code
def yX0_amountIn : MethodName := ⟨RX0, "amountIn", "(I)I"⟩
abbrev cX0_sumOf : ByteArray := prog_2_method_12_code
def yX0_sumOf : MethodName := ⟨RX0, "sumOf", "(I)I"⟩
abbrev cX0_sumUp : ByteArray := prog_2_method_13_code
def yX0_sumUp : MethodName := ⟨RX0, "sumUp", "()V"⟩
abbrev cX0_isSumOfJournal : ByteArray := prog_2_method_14_code
def yX0_isSumOfJournal : MethodName := ⟨RX0, "isSumOfJournal", "()Z"⟩
abbrev cX0_total : ByteArray := prog_2_method_15_code
def yX0_total : MethodName := ⟨RX0, "total", "()J"⟩
def RX1 : String := "Hundredward$Day"
def TX1 : u_T := fun k => match k with
  | _ => ("", "", "", false)
def tyX1 : Nat → FieldType := fun k => match k with
  | _ => .int
abbrev wsX10 : List Cond := u_ws RX1 TX1 0
theorem nmX1 : ∀ a, a < 0 → ∀ b, b < 0 → a ≠ b → (TX1 a).2.1 ≠ (TX1 b).2.1 := by decide +kernel
theorem tyX1_ok : ∀ k, k < 0 → parseFieldDescriptor (TX1 k).2.2.1 = some (tyX1 k) := by decide +kernel
abbrev cX1_live : ByteArray := prog_3_method_2_code
def yX1_live : MethodName := ⟨RX1, "live", "(LHundredward$Town;)V"⟩
abbrev cX1_flood : ByteArray := prog_3_method_3_code
def yX1_flood : MethodName := ⟨RX1, "flood", "(LHundredward$Town;)V"⟩
abbrev cX1_letHomes : ByteArray := prog_3_method_4_code
def yX1_letHomes : MethodName := ⟨RX1, "letHomes", "(LHundredward$Town;)V"⟩
abbrev cX1_letHome : ByteArray := prog_3_method_5_code
def yX1_letHome : MethodName := ⟨RX1, "letHome", "(LHundredward$Town;LHundredward$Plot;)V"⟩
abbrev cX1_hire : ByteArray := prog_3_method_6_code
def yX1_hire : MethodName := ⟨RX1, "hire", "(LHundredward$Town;)V"⟩
abbrev cX1_giveWater : ByteArray := prog_3_method_7_code
def yX1_giveWater : MethodName := ⟨RX1, "giveWater", "(LHundredward$Town;)V"⟩
abbrev cX1_serveReached : ByteArray := prog_3_method_8_code
def yX1_serveReached : MethodName := ⟨RX1, "serveReached", "(LHundredward$Land;)V"⟩
abbrev cX1_payRents : ByteArray := prog_3_method_9_code
def yX1_payRents : MethodName := ⟨RX1, "payRents", "(LHundredward$Town;)V"⟩
abbrev cX1_interestOn : ByteArray := prog_3_method_10_code
def yX1_interestOn : MethodName := ⟨RX1, "interestOn", "(I)I"⟩
abbrev cX1_payInterest : ByteArray := prog_3_method_11_code
def yX1_payInterest : MethodName := ⟨RX1, "payInterest", "(LHundredward$Town;)V"⟩
abbrev cX1_repay : ByteArray := prog_3_method_12_code
def yX1_repay : MethodName := ⟨RX1, "repay", "(LHundredward$Town;)V"⟩
abbrev cX1_changeNames : ByteArray := prog_3_method_13_code
def yX1_changeNames : MethodName := ⟨RX1, "changeNames", "(LHundredward$Town;)V"⟩
def RX2 : String := "Hundredward$Firm"
def TX2 : u_T := fun k => match k with
  | 0 => ("Hundredward$Firm", "number", "I", true)
  | 1 => ("Hundredward$Firm", "account", "I", true)
  | 2 => ("Hundredward$Firm", "present", "Z", false)
  | 3 => ("Hundredward$Firm", "plot", "LHundredward$Plot;", false)
  | 4 => ("Hundredward$Firm", "wage", "I", false)
  | 5 => ("Hundredward$Firm", "price", "I", false)
  | 6 => ("Hundredward$Firm", "credit", "I", false)
  | 7 => ("Hundredward$Firm", "stock", "I", false)
  | 8 => ("Hundredward$Firm", "workers", "I", false)
  | _ => ("Hundredward$Firm", "worked", "Z", false)
def tyX2 : Nat → FieldType := fun k => match k with
  | 0 => .int
  | 1 => .int
  | 2 => .boolean
  | 3 => .object "Hundredward$Plot"
  | 4 => .int
  | 5 => .int
  | 6 => .int
  | 7 => .int
  | 8 => .int
  | _ => .boolean
abbrev wsX20 : List Cond := u_ws RX2 TX2 10
theorem nmX2 : ∀ a, a < 10 → ∀ b, b < 10 → a ≠ b → (TX2 a).2.1 ≠ (TX2 b).2.1 := by decide +kernel
theorem tyX2_ok : ∀ k, k < 10 → parseFieldDescriptor (TX2 k).2.2.1 = some (tyX2 k) := by decide +kernel
abbrev cX2_init : ByteArray := prog_4_method_1_code
def yX2_init : MethodName := ⟨RX2, "<init>", "(I)V"⟩
abbrev cX2_isFactory : ByteArray := prog_4_method_2_code
def yX2_isFactory : MethodName := ⟨RX2, "isFactory", "()Z"⟩
abbrev cX2_isShop : ByteArray := prog_4_method_3_code
def yX2_isShop : MethodName := ⟨RX2, "isShop", "()Z"⟩
abbrev cX2_hasFreeJob : ByteArray := prog_4_method_4_code
def yX2_hasFreeJob : MethodName := ⟨RX2, "hasFreeJob", "()Z"⟩
abbrev cX2_canBeReached : ByteArray := prog_4_method_5_code
def yX2_canBeReached : MethodName := ⟨RX2, "canBeReached", "()Z"⟩
def RX3 : String := "Hundredward$Household"
def TX3 : u_T := fun k => match k with
  | 0 => ("Hundredward$Household", "number", "I", true)
  | 1 => ("Hundredward$Household", "account", "I", true)
  | 2 => ("Hundredward$Household", "present", "Z", false)
  | 3 => ("Hundredward$Household", "skill", "I", false)
  | 4 => ("Hundredward$Household", "home", "LHundredward$Plot;", false)
  | 5 => ("Hundredward$Household", "firm", "LHundredward$Firm;", false)
  | 6 => ("Hundredward$Household", "hunger", "I", false)
  | 7 => ("Hundredward$Household", "start", "LHundredward$Plot;", false)
  | 8 => ("Hundredward$Household", "goal", "LHundredward$Plot;", false)
  | 9 => ("Hundredward$Household", "route", "I", false)
  | _ => ("Hundredward$Household", "cost", "I", false)
def tyX3 : Nat → FieldType := fun k => match k with
  | 0 => .int
  | 1 => .int
  | 2 => .boolean
  | 3 => .int
  | 4 => .object "Hundredward$Plot"
  | 5 => .object "Hundredward$Firm"
  | 6 => .int
  | 7 => .object "Hundredward$Plot"
  | 8 => .object "Hundredward$Plot"
  | 9 => .int
  | _ => .int
abbrev wsX30 : List Cond := u_ws RX3 TX3 11
theorem nmX3 : ∀ a, a < 11 → ∀ b, b < 11 → a ≠ b → (TX3 a).2.1 ≠ (TX3 b).2.1 := by decide +kernel
theorem tyX3_ok : ∀ k, k < 11 → parseFieldDescriptor (TX3 k).2.2.1 = some (tyX3 k) := by decide +kernel
abbrev cX3_init : ByteArray := prog_5_method_1_code
def yX3_init : MethodName := ⟨RX3, "<init>", "(I)V"⟩
abbrev cX3_isWorker : ByteArray := prog_5_method_2_code
def yX3_isWorker : MethodName := ⟨RX3, "isWorker", "()Z"⟩
abbrev cX3_goesOver : ByteArray := prog_5_method_3_code
def yX3_goesOver : MethodName := ⟨RX3, "goesOver", "(LHundredward$Plot;)Z"⟩
def RX4 : String := "Hundredward$Land"
def TX4 : u_T := fun k => match k with
  | 0 => ("Hundredward$Land", "plots", "[LHundredward$Plot;", true)
  | 1 => ("Hundredward$Land", "queue", "[LHundredward$Plot;", true)
  | _ => ("Hundredward$Land", "river", "I", false)
def tyX4 : Nat → FieldType := fun k => match k with
  | 0 => .array (.object "Hundredward$Plot")
  | 1 => .array (.object "Hundredward$Plot")
  | _ => .int
abbrev wsX40 : List Cond := u_ws RX4 TX4 3
theorem nmX4 : ∀ a, a < 3 → ∀ b, b < 3 → a ≠ b → (TX4 a).2.1 ≠ (TX4 b).2.1 := by decide +kernel
theorem tyX4_ok : ∀ k, k < 3 → parseFieldDescriptor (TX4 k).2.2.1 = some (tyX4 k) := by decide +kernel
abbrev cX4_init : ByteArray := prog_6_method_1_code
def yX4_init : MethodName := ⟨RX4, "<init>", "()V"⟩
abbrev cX4_at : ByteArray := prog_6_method_2_code
def yX4_at : MethodName := ⟨RX4, "at", "(I)LHundredward$Plot;"⟩
abbrev cX4_isFlooded : ByteArray := prog_6_method_3_code
def yX4_isFlooded : MethodName := ⟨RX4, "isFlooded", "(LHundredward$Plot;)Z"⟩
abbrev cX4_isOpenRoad : ByteArray := prog_6_method_4_code
def yX4_isOpenRoad : MethodName := ⟨RX4, "isOpenRoad", "(LHundredward$Plot;)Z"⟩
abbrev cX4_countFlooded : ByteArray := prog_6_method_5_code
def yX4_countFlooded : MethodName := ⟨RX4, "countFlooded", "()I"⟩
abbrev cX4_spreadFrom : ByteArray := prog_6_method_6_code
def yX4_spreadFrom : MethodName := ⟨RX4, "spreadFrom", "(LHundredward$Plot;)V"⟩
abbrev cX4_spreadOn : ByteArray := prog_6_method_7_code
def yX4_spreadOn : MethodName := ⟨RX4, "spreadOn", "(LHundredward$Plot;II)I"⟩
def RX5 : String := "Hundredward$Laws"
def TX5 : u_T := fun k => match k with
  | 0 => ("Hundredward$Laws", "incomeTax", "I", false)
  | 1 => ("Hundredward$Laws", "salesTax", "I", false)
  | _ => ("Hundredward$Laws", "greatestRent", "I", false)
def tyX5 : Nat → FieldType := fun k => match k with
  | 0 => .int
  | 1 => .int
  | _ => .int
abbrev wsX50 : List Cond := u_ws RX5 TX5 3
theorem nmX5 : ∀ a, a < 3 → ∀ b, b < 3 → a ≠ b → (TX5 a).2.1 ≠ (TX5 b).2.1 := by decide +kernel
theorem tyX5_ok : ∀ k, k < 3 → parseFieldDescriptor (TX5 k).2.2.1 = some (tyX5 k) := by decide +kernel
abbrev cX5_init : ByteArray := prog_7_method_1_code
def yX5_init : MethodName := ⟨RX5, "<init>", "()V"⟩
abbrev cX5_isMatter : ByteArray := prog_7_method_2_code
def yX5_isMatter : MethodName := ⟨RX5, "isMatter", "(C)Z"⟩
abbrev cX5_leastOf : ByteArray := prog_7_method_3_code
def yX5_leastOf : MethodName := ⟨RX5, "leastOf", "(C)I"⟩
abbrev cX5_mostOf : ByteArray := prog_7_method_4_code
def yX5_mostOf : MethodName := ⟨RX5, "mostOf", "(C)I"⟩
abbrev cX5_numberOf : ByteArray := prog_7_method_5_code
def yX5_numberOf : MethodName := ⟨RX5, "numberOf", "(C)I"⟩
abbrev cX5_put : ByteArray := prog_7_method_6_code
def yX5_put : MethodName := ⟨RX5, "put", "(CI)V"⟩
abbrev cX5_failTown : ByteArray := prog_7_method_7_code
def yX5_failTown : MethodName := ⟨RX5, "failTown", "()V"⟩
abbrev cX5_isCarried : ByteArray := prog_7_method_8_code
def yX5_isCarried : MethodName := ⟨RX5, "isCarried", "(LHundredward$Town;CI)Z"⟩
abbrev cX5_isFor : ByteArray := prog_7_method_9_code
def yX5_isFor : MethodName := ⟨RX5, "isFor", "(LHundredward$Town;LHundredward$Household;CI)Z"⟩
abbrev cX5_wantsLess : ByteArray := prog_7_method_10_code
def yX5_wantsLess : MethodName := ⟨RX5, "wantsLess", "(LHundredward$Town;LHundredward$Household;C)Z"⟩
def RX6 : String := "Hundredward$Permits"
def TX6 : u_T := fun k => match k with
  | 0 => ("Hundredward$Permits", "precedents", "[I", true)
  | _ => ("Hundredward$Permits", "tolerance", "I", false)
def tyX6 : Nat → FieldType := fun k => match k with
  | 0 => .array .int
  | _ => .int
abbrev wsX60 : List Cond := u_ws RX6 TX6 2
theorem nmX6 : ∀ a, a < 2 → ∀ b, b < 2 → a ≠ b → (TX6 a).2.1 ≠ (TX6 b).2.1 := by decide +kernel
theorem tyX6_ok : ∀ k, k < 2 → parseFieldDescriptor (TX6 k).2.2.1 = some (tyX6 k) := by decide +kernel
abbrev cX6_init : ByteArray := prog_8_method_1_code
def yX6_init : MethodName := ⟨RX6, "<init>", "()V"⟩
abbrev cX6_isKind : ByteArray := prog_8_method_2_code
def yX6_isKind : MethodName := ⟨RX6, "isKind", "(C)Z"⟩
abbrev cX6_objectionsTo : ByteArray := prog_8_method_3_code
def yX6_objectionsTo : MethodName := ⟨RX6, "objectionsTo", "(CLHundredward$Plot;)I"⟩
abbrev cX6_minds : ByteArray := prog_8_method_4_code
def yX6_minds : MethodName := ⟨RX6, "minds", "(LHundredward$Household;C)Z"⟩
abbrev cX6_decide : ByteArray := prog_8_method_5_code
def yX6_decide : MethodName := ⟨RX6, "decide", "(CI)Z"⟩
def RX7 : String := "Hundredward$Plot"
def TX7 : u_T := fun k => match k with
  | 0 => ("Hundredward$Plot", "number", "I", true)
  | 1 => ("Hundredward$Plot", "sides", "[LHundredward$Plot;", true)
  | 2 => ("Hundredward$Plot", "height", "I", false)
  | 3 => ("Hundredward$Plot", "name", "I", false)
  | 4 => ("Hundredward$Plot", "kind", "C", false)
  | 5 => ("Hundredward$Plot", "tenant", "LHundredward$Household;", false)
  | 6 => ("Hundredward$Plot", "rent", "I", false)
  | 7 => ("Hundredward$Plot", "firm", "LHundredward$Firm;", false)
  | 8 => ("Hundredward$Plot", "load", "I", false)
  | 9 => ("Hundredward$Plot", "water", "Z", false)
  | 10 => ("Hundredward$Plot", "wasOpen", "Z", false)
  | 11 => ("Hundredward$Plot", "roads", "I", false)
  | 12 => ("Hundredward$Plot", "reach", "I", false)
  | _ => ("Hundredward$Plot", "done", "Z", false)
def tyX7 : Nat → FieldType := fun k => match k with
  | 0 => .int
  | 1 => .array (.object "Hundredward$Plot")
  | 2 => .int
  | 3 => .int
  | 4 => .char
  | 5 => .object "Hundredward$Household"
  | 6 => .int
  | 7 => .object "Hundredward$Firm"
  | 8 => .int
  | 9 => .boolean
  | 10 => .boolean
  | 11 => .int
  | 12 => .int
  | _ => .boolean
abbrev wsX70 : List Cond := u_ws RX7 TX7 14
theorem nmX7 : ∀ a, a < 14 → ∀ b, b < 14 → a ≠ b → (TX7 a).2.1 ≠ (TX7 b).2.1 := by decide +kernel
theorem tyX7_ok : ∀ k, k < 14 → parseFieldDescriptor (TX7 k).2.2.1 = some (tyX7 k) := by decide +kernel
abbrev cX7_init : ByteArray := prog_9_method_1_code
def yX7_init : MethodName := ⟨RX7, "<init>", "(I)V"⟩
abbrev cX7_isForFirms : ByteArray := prog_9_method_2_code
def yX7_isForFirms : MethodName := ⟨RX7, "isForFirms", "()Z"⟩
abbrev cX7_takesWater : ByteArray := prog_9_method_3_code
def yX7_takesWater : MethodName := ⟨RX7, "takesWater", "()Z"⟩
abbrev cX7_isBeside : ByteArray := prog_9_method_4_code
def yX7_isBeside : MethodName := ⟨RX7, "isBeside", "(LHundredward$Plot;)Z"⟩
abbrev cX7_changeName : ByteArray := prog_9_method_5_code
def yX7_changeName : MethodName := ⟨RX7, "changeName", "(I)V"⟩
def RX8 : String := "Hundredward$Routes"
def TX8 : u_T := fun k => match k with
  | _ => ("", "", "", false)
def tyX8 : Nat → FieldType := fun k => match k with
  | _ => .int
abbrev wsX80 : List Cond := u_ws RX8 TX8 0
theorem nmX8 : ∀ a, a < 0 → ∀ b, b < 0 → a ≠ b → (TX8 a).2.1 ≠ (TX8 b).2.1 := by decide +kernel
theorem tyX8_ok : ∀ k, k < 0 → parseFieldDescriptor (TX8 k).2.2.1 = some (tyX8 k) := by decide +kernel
abbrev cX8_choose : ByteArray := prog_10_method_2_code
def yX8_choose : MethodName := ⟨RX8, "choose", "(LHundredward$Town;)V"⟩
abbrev cX8_sendToWork : ByteArray := prog_10_method_3_code
def yX8_sendToWork : MethodName := ⟨RX8, "sendToWork", "(LHundredward$Land;LHundredward$Household;)V"⟩
abbrev cX8_goRound : ByteArray := prog_10_method_4_code
def yX8_goRound : MethodName := ⟨RX8, "goRound", "(LHundredward$Town;)Z"⟩
abbrev cX8_takeCheapest : ByteArray := prog_10_method_5_code
def yX8_takeCheapest : MethodName := ⟨RX8, "takeCheapest", "(LHundredward$Land;LHundredward$Household;)Z"⟩
abbrev cX8_addLoad : ByteArray := prog_10_method_6_code
def yX8_addLoad : MethodName := ⟨RX8, "addLoad", "(LHundredward$Land;LHundredward$Household;I)V"⟩
abbrev cX8_costOfOwn : ByteArray := prog_10_method_7_code
def yX8_costOfOwn : MethodName := ⟨RX8, "costOfOwn", "(LHundredward$Land;LHundredward$Household;)I"⟩
abbrev cX8_stepOver : ByteArray := prog_10_method_8_code
def yX8_stepOver : MethodName := ⟨RX8, "stepOver", "(LHundredward$Plot;LHundredward$Household;)I"⟩
abbrev cX8_search : ByteArray := prog_10_method_9_code
def yX8_search : MethodName := ⟨RX8, "search", "(LHundredward$Land;LHundredward$Household;)I"⟩
abbrev cX8_nearestOpen : ByteArray := prog_10_method_10_code
def yX8_nearestOpen : MethodName := ⟨RX8, "nearestOpen", "(LHundredward$Land;)LHundredward$Plot;"⟩
abbrev cX8_improve : ByteArray := prog_10_method_11_code
def yX8_improve : MethodName := ⟨RX8, "improve", "(LHundredward$Plot;ILHundredward$Household;)V"⟩
abbrev cX8_leastBeside : ByteArray := prog_10_method_12_code
def yX8_leastBeside : MethodName := ⟨RX8, "leastBeside", "(LHundredward$Plot;)I"⟩
abbrev cX8_trace : ByteArray := prog_10_method_13_code
def yX8_trace : MethodName := ⟨RX8, "trace", "(LHundredward$Household;I)I"⟩
abbrev cX8_firstBeside : ByteArray := prog_10_method_14_code
def yX8_firstBeside : MethodName := ⟨RX8, "firstBeside", "(LHundredward$Plot;I)LHundredward$Plot;"⟩
abbrev cX8_areSettled : ByteArray := prog_10_method_15_code
def yX8_areSettled : MethodName := ⟨RX8, "areSettled", "(LHundredward$Town;)Z"⟩
def RX9 : String := "Hundredward$Town"
def TX9 : u_T := fun k => match k with
  | 0 => ("Hundredward$Town", "land", "LHundredward$Land;", true)
  | 1 => ("Hundredward$Town", "book", "LHundredward$Book;", true)
  | 2 => ("Hundredward$Town", "permits", "LHundredward$Permits;", true)
  | 3 => ("Hundredward$Town", "laws", "LHundredward$Laws;", true)
  | 4 => ("Hundredward$Town", "people", "[LHundredward$Household;", true)
  | 5 => ("Hundredward$Town", "firms", "[LHundredward$Firm;", true)
  | 6 => ("Hundredward$Town", "came", "I", false)
  | 7 => ("Hundredward$Town", "founded", "I", false)
  | 8 => ("Hundredward$Town", "bonds", "I", false)
  | 9 => ("Hundredward$Town", "failures", "I", false)
  | 10 => ("Hundredward$Town", "day", "I", false)
  | 11 => ("Hundredward$Town", "made", "I", false)
  | 12 => ("Hundredward$Town", "sold", "I", false)
  | _ => ("Hundredward$Town", "lost", "I", false)
def tyX9 : Nat → FieldType := fun k => match k with
  | 0 => .object "Hundredward$Land"
  | 1 => .object "Hundredward$Book"
  | 2 => .object "Hundredward$Permits"
  | 3 => .object "Hundredward$Laws"
  | 4 => .array (.object "Hundredward$Household")
  | 5 => .array (.object "Hundredward$Firm")
  | 6 => .int
  | 7 => .int
  | 8 => .int
  | 9 => .int
  | 10 => .int
  | 11 => .int
  | 12 => .int
  | _ => .int
abbrev wsX90 : List Cond := u_ws RX9 TX9 14
theorem nmX9 : ∀ a, a < 14 → ∀ b, b < 14 → a ≠ b → (TX9 a).2.1 ≠ (TX9 b).2.1 := by decide +kernel
theorem tyX9_ok : ∀ k, k < 14 → parseFieldDescriptor (TX9 k).2.2.1 = some (tyX9 k) := by decide +kernel
abbrev cX9_init : ByteArray := prog_11_method_1_code
def yX9_init : MethodName := ⟨RX9, "<init>", "()V"⟩
abbrev cX9_nextHousehold : ByteArray := prog_11_method_2_code
def yX9_nextHousehold : MethodName := ⟨RX9, "nextHousehold", "()LHundredward$Household;"⟩
abbrev cX9_householdAt : ByteArray := prog_11_method_3_code
def yX9_householdAt : MethodName := ⟨RX9, "householdAt", "(I)LHundredward$Household;"⟩
abbrev cX9_nextFirm : ByteArray := prog_11_method_4_code
def yX9_nextFirm : MethodName := ⟨RX9, "nextFirm", "()LHundredward$Firm;"⟩
abbrev cX9_firmAt : ByteArray := prog_11_method_5_code
def yX9_firmAt : MethodName := ⟨RX9, "firmAt", "(I)LHundredward$Firm;"⟩
abbrev cX9_hasAccount : ByteArray := prog_11_method_6_code
def yX9_hasAccount : MethodName := ⟨RX9, "hasAccount", "(I)Z"⟩
abbrev cX9_welcome : ByteArray := prog_11_method_7_code
def yX9_welcome : MethodName := ⟨RX9, "welcome", "(LHundredward$Household;II)V"⟩
abbrev cX9_sendAway : ByteArray := prog_11_method_8_code
def yX9_sendAway : MethodName := ⟨RX9, "sendAway", "(LHundredward$Household;)V"⟩
abbrev cX9_moveIn : ByteArray := prog_11_method_9_code
def yX9_moveIn : MethodName := ⟨RX9, "moveIn", "(LHundredward$Household;LHundredward$Plot;I)V"⟩
abbrev cX9_moveOut : ByteArray := prog_11_method_10_code
def yX9_moveOut : MethodName := ⟨RX9, "moveOut", "(LHundredward$Household;)V"⟩
abbrev cX9_takeJob : ByteArray := prog_11_method_11_code
def yX9_takeJob : MethodName := ⟨RX9, "takeJob", "(LHundredward$Household;LHundredward$Firm;)V"⟩
abbrev cX9_loseJob : ByteArray := prog_11_method_12_code
def yX9_loseJob : MethodName := ⟨RX9, "loseJob", "(LHundredward$Household;)V"⟩
abbrev cX9_open : ByteArray := prog_11_method_13_code
def yX9_open : MethodName := ⟨RX9, "open", "(LHundredward$Firm;LHundredward$Plot;II)V"⟩
abbrev cX9_lend : ByteArray := prog_11_method_14_code
def yX9_lend : MethodName := ⟨RX9, "lend", "(LHundredward$Firm;I)V"⟩
abbrev cX9_close : ByteArray := prog_11_method_15_code
def yX9_close : MethodName := ⟨RX9, "close", "(LHundredward$Firm;)V"⟩
abbrev cX9_fail : ByteArray := prog_11_method_16_code
def yX9_fail : MethodName := ⟨RX9, "fail", "()V"⟩
abbrev cX9_cutRents : ByteArray := prog_11_method_17_code
def yX9_cutRents : MethodName := ⟨RX9, "cutRents", "()V"⟩
abbrev cX9_countHouseholds : ByteArray := prog_11_method_18_code
def yX9_countHouseholds : MethodName := ⟨RX9, "countHouseholds", "()I"⟩
abbrev cX9_countEmployed : ByteArray := prog_11_method_19_code
def yX9_countEmployed : MethodName := ⟨RX9, "countEmployed", "()I"⟩
abbrev cX9_countTenants : ByteArray := prog_11_method_20_code
def yX9_countTenants : MethodName := ⟨RX9, "countTenants", "()I"⟩
abbrev cX9_sumOfRents : ByteArray := prog_11_method_21_code
def yX9_sumOfRents : MethodName := ⟨RX9, "sumOfRents", "()I"⟩
abbrev cX9_areGoodsBalanced : ByteArray := prog_11_method_22_code
def yX9_areGoodsBalanced : MethodName := ⟨RX9, "areGoodsBalanced", "()Z"⟩
def RX10 : String := "Hundredward$Trade"
def TX10 : u_T := fun k => match k with
  | _ => ("", "", "", false)
def tyX10 : Nat → FieldType := fun k => match k with
  | _ => .int
abbrev wsX100 : List Cond := u_ws RX10 TX10 0
theorem nmX10 : ∀ a, a < 0 → ∀ b, b < 0 → a ≠ b → (TX10 a).2.1 ≠ (TX10 b).2.1 := by decide +kernel
theorem tyX10_ok : ∀ k, k < 0 → parseFieldDescriptor (TX10 k).2.2.1 = some (tyX10 k) := by decide +kernel
abbrev cX10_work : ByteArray := prog_12_method_2_code
def yX10_work : MethodName := ⟨RX10, "work", "(LHundredward$Town;)V"⟩
abbrev cX10_workFor : ByteArray := prog_12_method_3_code
def yX10_workFor : MethodName := ⟨RX10, "workFor", "(LHundredward$Town;LHundredward$Household;LHundredward$Firm;)V"⟩
abbrev cX10_goodsOf : ByteArray := prog_12_method_4_code
def yX10_goodsOf : MethodName := ⟨RX10, "goodsOf", "(LHundredward$Household;)I"⟩
abbrev cX10_store : ByteArray := prog_12_method_5_code
def yX10_store : MethodName := ⟨RX10, "store", "(LHundredward$Town;LHundredward$Firm;I)V"⟩
abbrev cX10_payWage : ByteArray := prog_12_method_6_code
def yX10_payWage : MethodName := ⟨RX10, "payWage", "(LHundredward$Town;LHundredward$Household;LHundredward$Firm;)V"⟩
abbrev cX10_carryFreight : ByteArray := prog_12_method_7_code
def yX10_carryFreight : MethodName := ⟨RX10, "carryFreight", "(LHundredward$Town;)V"⟩
abbrev cX10_stockUp : ByteArray := prog_12_method_8_code
def yX10_stockUp : MethodName := ⟨RX10, "stockUp", "(LHundredward$Town;LHundredward$Firm;)V"⟩
abbrev cX10_cheapestFactory : ByteArray := prog_12_method_9_code
def yX10_cheapestFactory : MethodName := ⟨RX10, "cheapestFactory", "(LHundredward$Town;)LHundredward$Firm;"⟩
abbrev cX10_sells : ByteArray := prog_12_method_10_code
def yX10_sells : MethodName := ⟨RX10, "sells", "(LHundredward$Firm;)Z"⟩
abbrev cX10_shop : ByteArray := prog_12_method_11_code
def yX10_shop : MethodName := ⟨RX10, "shop", "(LHundredward$Town;)V"⟩
abbrev cX10_buysPiece : ByteArray := prog_12_method_12_code
def yX10_buysPiece : MethodName := ⟨RX10, "buysPiece", "(LHundredward$Town;LHundredward$Household;)Z"⟩
abbrev cX10_cheapestShop : ByteArray := prog_12_method_13_code
def yX10_cheapestShop : MethodName := ⟨RX10, "cheapestShop", "(LHundredward$Town;)LHundredward$Firm;"⟩
def RX11 : String := "Hundredward"
def TX11 : u_T := fun k => match k with
  | _ => ("Hundredward", "town", "LHundredward$Town;", true)
def tyX11 : Nat → FieldType := fun k => match k with
  | _ => .object "Hundredward$Town"
abbrev wsX110 : List Cond := u_ws RX11 TX11 1
theorem nmX11 : ∀ a, a < 1 → ∀ b, b < 1 → a ≠ b → (TX11 a).2.1 ≠ (TX11 b).2.1 := by decide +kernel
theorem tyX11_ok : ∀ k, k < 1 → parseFieldDescriptor (TX11 k).2.2.1 = some (tyX11 k) := by decide +kernel
abbrev cX11_init : ByteArray := prog_1_method_1_code
def yX11_init : MethodName := ⟨RX11, "<init>", "()V"⟩
abbrev cX11_setHeight : ByteArray := prog_1_method_2_code
def yX11_setHeight : MethodName := ⟨RX11, "setHeight", "(II)I"⟩
abbrev cX11_setRiver : ByteArray := prog_1_method_3_code
def yX11_setRiver : MethodName := ⟨RX11, "setRiver", "(I)I"⟩
abbrev cX11_build : ByteArray := prog_1_method_4_code
def yX11_build : MethodName := ⟨RX11, "build", "(IC)Z"⟩
abbrev cX11_takeDown : ByteArray := prog_1_method_5_code
def yX11_takeDown : MethodName := ⟨RX11, "takeDown", "(I)C"⟩
abbrev cX11_setTolerance : ByteArray := prog_1_method_6_code
def yX11_setTolerance : MethodName := ⟨RX11, "setTolerance", "(I)I"⟩
abbrev cX11_vote : ByteArray := prog_1_method_7_code
def yX11_vote : MethodName := ⟨RX11, "vote", "(CI)Z"⟩
abbrev cX11_law : ByteArray := prog_1_method_8_code
def yX11_law : MethodName := ⟨RX11, "law", "(C)I"⟩
abbrev cX11_builtOn : ByteArray := prog_1_method_9_code
def yX11_builtOn : MethodName := ⟨RX11, "builtOn", "(I)C"⟩
abbrev cX11_nameOf : ByteArray := prog_1_method_10_code
def yX11_nameOf : MethodName := ⟨RX11, "nameOf", "(I)I"⟩
abbrev cX11_rentOf : ByteArray := prog_1_method_11_code
def yX11_rentOf : MethodName := ⟨RX11, "rentOf", "(I)I"⟩
abbrev cX11_load : ByteArray := prog_1_method_12_code
def yX11_load : MethodName := ⟨RX11, "load", "(I)I"⟩
abbrev cX11_hadWater : ByteArray := prog_1_method_13_code
def yX11_hadWater : MethodName := ⟨RX11, "hadWater", "(I)Z"⟩
abbrev cX11_way : ByteArray := prog_1_method_14_code
def yX11_way : MethodName := ⟨RX11, "way", "(II)I"⟩
abbrev cX11_arrive : ByteArray := prog_1_method_15_code
def yX11_arrive : MethodName := ⟨RX11, "arrive", "(II)I"⟩
abbrev cX11_leave : ByteArray := prog_1_method_16_code
def yX11_leave : MethodName := ⟨RX11, "leave", "(I)I"⟩
abbrev cX11_found : ByteArray := prog_1_method_17_code
def yX11_found : MethodName := ⟨RX11, "found", "(III)I"⟩
abbrev cX11_setPay : ByteArray := prog_1_method_18_code
def yX11_setPay : MethodName := ⟨RX11, "setPay", "(III)I"⟩
abbrev cX11_homeOf : ByteArray := prog_1_method_19_code
def yX11_homeOf : MethodName := ⟨RX11, "homeOf", "(I)I"⟩
abbrev cX11_firmOf : ByteArray := prog_1_method_20_code
def yX11_firmOf : MethodName := ⟨RX11, "firmOf", "(I)I"⟩
abbrev cX11_hungerOf : ByteArray := prog_1_method_21_code
def yX11_hungerOf : MethodName := ⟨RX11, "hungerOf", "(I)I"⟩
abbrev cX11_costOf : ByteArray := prog_1_method_22_code
def yX11_costOf : MethodName := ⟨RX11, "costOf", "(I)I"⟩
abbrev cX11_stockOf : ByteArray := prog_1_method_23_code
def yX11_stockOf : MethodName := ⟨RX11, "stockOf", "(I)I"⟩
abbrev cX11_creditOf : ByteArray := prog_1_method_24_code
def yX11_creditOf : MethodName := ⟨RX11, "creditOf", "(I)I"⟩
abbrev cX11_workersOf : ByteArray := prog_1_method_25_code
def yX11_workersOf : MethodName := ⟨RX11, "workersOf", "(I)I"⟩
abbrev cX11_borrow : ByteArray := prog_1_method_26_code
def yX11_borrow : MethodName := ⟨RX11, "borrow", "(I)I"⟩
abbrev cX11_pass : ByteArray := prog_1_method_27_code
def yX11_pass : MethodName := ⟨RX11, "pass", "(I)I"⟩
abbrev cX11_balance : ByteArray := prog_1_method_28_code
def yX11_balance : MethodName := ⟨RX11, "balance", "(I)I"⟩
abbrev cX11_balanceAnew : ByteArray := prog_1_method_29_code
def yX11_balanceAnew : MethodName := ⟨RX11, "balanceAnew", "(I)I"⟩
abbrev cX11_entries : ByteArray := prog_1_method_30_code
def yX11_entries : MethodName := ⟨RX11, "entries", "()I"⟩
abbrev cX11_entry : ByteArray := prog_1_method_31_code
def yX11_entry : MethodName := ⟨RX11, "entry", "(II)I"⟩
abbrev cX11_bonds : ByteArray := prog_1_method_32_code
def yX11_bonds : MethodName := ⟨RX11, "bonds", "()I"⟩
abbrev cX11_failures : ByteArray := prog_1_method_33_code
def yX11_failures : MethodName := ⟨RX11, "failures", "()I"⟩
abbrev cX11_households : ByteArray := prog_1_method_34_code
def yX11_households : MethodName := ⟨RX11, "households", "()I"⟩
abbrev cX11_money : ByteArray := prog_1_method_35_code
def yX11_money : MethodName := ⟨RX11, "money", "()J"⟩
abbrev cX11_workingShare : ByteArray := prog_1_method_36_code
def yX11_workingShare : MethodName := ⟨RX11, "workingShare", "()F"⟩
abbrev cX11_meanRent : ByteArray := prog_1_method_37_code
def yX11_meanRent : MethodName := ⟨RX11, "meanRent", "()D"⟩
abbrev cX11_isBalanced : ByteArray := prog_1_method_38_code
def yX11_isBalanced : MethodName := ⟨RX11, "isBalanced", "()Z"⟩
abbrev cX11_plotOf : ByteArray := prog_1_method_39_code
def yX11_plotOf : MethodName := ⟨RX11, "plotOf", "(I)LHundredward$Plot;"⟩
abbrev cX11_householdOf : ByteArray := prog_1_method_40_code
def yX11_householdOf : MethodName := ⟨RX11, "householdOf", "(I)LHundredward$Household;"⟩
abbrev cX11_firmNumbered : ByteArray := prog_1_method_41_code
def yX11_firmNumbered : MethodName := ⟨RX11, "firmNumbered", "(I)LHundredward$Firm;"⟩
abbrev cX11_requireAccount : ByteArray := prog_1_method_42_code
def yX11_requireAccount : MethodName := ⟨RX11, "requireAccount", "(I)V"⟩
abbrev cX11_requireRange : ByteArray := prog_1_method_43_code
def yX11_requireRange : MethodName := ⟨RX11, "requireRange", "(III)V"⟩
def RX12 : String := "HundredwardModel$Entry"
def TX12 : u_T := fun k => match k with
  | 0 => ("HundredwardModel$Entry", "from", "I", true)
  | 1 => ("HundredwardModel$Entry", "to", "I", true)
  | _ => ("HundredwardModel$Entry", "amount", "I", true)
def tyX12 : Nat → FieldType := fun k => match k with
  | 0 => .int
  | 1 => .int
  | _ => .int
abbrev wsX120 : List Cond := u_ws RX12 TX12 3
theorem nmX12 : ∀ a, a < 3 → ∀ b, b < 3 → a ≠ b → (TX12 a).2.1 ≠ (TX12 b).2.1 := by decide +kernel
theorem tyX12_ok : ∀ k, k < 3 → parseFieldDescriptor (TX12 k).2.2.1 = some (tyX12 k) := by decide +kernel
abbrev cX12_init : ByteArray := prog_15_method_1_code
def yX12_init : MethodName := ⟨RX12, "<init>", "(III)V"⟩
def RX13 : String := "HundredwardModel$Firm"
def TX13 : u_T := fun k => match k with
  | 0 => ("HundredwardModel$Firm", "number", "I", true)
  | 1 => ("HundredwardModel$Firm", "plot", "I", true)
  | 2 => ("HundredwardModel$Firm", "isThere", "Z", false)
  | 3 => ("HundredwardModel$Firm", "wage", "I", false)
  | 4 => ("HundredwardModel$Firm", "price", "I", false)
  | 5 => ("HundredwardModel$Firm", "stock", "I", false)
  | 6 => ("HundredwardModel$Firm", "credit", "I", false)
  | _ => ("HundredwardModel$Firm", "hadWorker", "Z", false)
def tyX13 : Nat → FieldType := fun k => match k with
  | 0 => .int
  | 1 => .int
  | 2 => .boolean
  | 3 => .int
  | 4 => .int
  | 5 => .int
  | 6 => .int
  | _ => .boolean
abbrev wsX130 : List Cond := u_ws RX13 TX13 8
theorem nmX13 : ∀ a, a < 8 → ∀ b, b < 8 → a ≠ b → (TX13 a).2.1 ≠ (TX13 b).2.1 := by decide +kernel
theorem tyX13_ok : ∀ k, k < 8 → parseFieldDescriptor (TX13 k).2.2.1 = some (tyX13 k) := by decide +kernel
abbrev cX13_init : ByteArray := prog_16_method_1_code
def yX13_init : MethodName := ⟨RX13, "<init>", "(IIII)V"⟩
abbrev cX13_account : ByteArray := prog_16_method_2_code
def yX13_account : MethodName := ⟨RX13, "account", "()I"⟩
def RX14 : String := "HundredwardModel$Household"
def TX14 : u_T := fun k => match k with
  | 0 => ("HundredwardModel$Household", "number", "I", true)
  | 1 => ("HundredwardModel$Household", "skill", "I", true)
  | 2 => ("HundredwardModel$Household", "isThere", "Z", false)
  | 3 => ("HundredwardModel$Household", "home", "I", false)
  | 4 => ("HundredwardModel$Household", "firm", "I", false)
  | 5 => ("HundredwardModel$Household", "hunger", "I", false)
  | 6 => ("HundredwardModel$Household", "cost", "I", false)
  | _ => ("HundredwardModel$Household", "way", "Ljava/util/ArrayList;", false)
def tyX14 : Nat → FieldType := fun k => match k with
  | 0 => .int
  | 1 => .int
  | 2 => .boolean
  | 3 => .int
  | 4 => .int
  | 5 => .int
  | 6 => .int
  | _ => .object "java/util/ArrayList"
abbrev wsX140 : List Cond := u_ws RX14 TX14 8
theorem nmX14 : ∀ a, a < 8 → ∀ b, b < 8 → a ≠ b → (TX14 a).2.1 ≠ (TX14 b).2.1 := by decide +kernel
theorem tyX14_ok : ∀ k, k < 8 → parseFieldDescriptor (TX14 k).2.2.1 = some (tyX14 k) := by decide +kernel
abbrev cX14_init : ByteArray := prog_17_method_1_code
def yX14_init : MethodName := ⟨RX14, "<init>", "(II)V"⟩
abbrev cX14_account : ByteArray := prog_17_method_2_code
def yX14_account : MethodName := ⟨RX14, "account", "()I"⟩
def RX15 : String := "HundredwardModel"
def TX15 : u_T := fun k => match k with
  | 0 => ("HundredwardModel", "thrown", "I", false)
  | 1 => ("HundredwardModel", "heights", "[I", true)
  | 2 => ("HundredwardModel", "names", "[I", true)
  | 3 => ("HundredwardModel", "built", "[C", true)
  | 4 => ("HundredwardModel", "rents", "[I", true)
  | 5 => ("HundredwardModel", "loads", "[I", true)
  | 6 => ("HundredwardModel", "water", "[Z", true)
  | 7 => ("HundredwardModel", "river", "I", false)
  | 8 => ("HundredwardModel", "tolerance", "I", false)
  | 9 => ("HundredwardModel", "incomeTax", "I", false)
  | 10 => ("HundredwardModel", "salesTax", "I", false)
  | 11 => ("HundredwardModel", "mostRent", "I", false)
  | 12 => ("HundredwardModel", "precedents", "[I", true)
  | 13 => ("HundredwardModel", "journal", "Ljava/util/ArrayList;", true)
  | 14 => ("HundredwardModel", "households", "Ljava/util/ArrayList;", true)
  | 15 => ("HundredwardModel", "firms", "Ljava/util/ArrayList;", true)
  | 16 => ("HundredwardModel", "bonds", "I", false)
  | 17 => ("HundredwardModel", "failures", "I", false)
  | _ => ("HundredwardModel", "day", "I", false)
def tyX15 : Nat → FieldType := fun k => match k with
  | 0 => .int
  | 1 => .array .int
  | 2 => .array .int
  | 3 => .array .char
  | 4 => .array .int
  | 5 => .array .int
  | 6 => .array .boolean
  | 7 => .int
  | 8 => .int
  | 9 => .int
  | 10 => .int
  | 11 => .int
  | 12 => .array .int
  | 13 => .object "java/util/ArrayList"
  | 14 => .object "java/util/ArrayList"
  | 15 => .object "java/util/ArrayList"
  | 16 => .int
  | 17 => .int
  | _ => .int
abbrev wsX150 : List Cond := u_ws RX15 TX15 19
theorem nmX15 : ∀ a, a < 19 → ∀ b, b < 19 → a ≠ b → (TX15 a).2.1 ≠ (TX15 b).2.1 := by decide +kernel
theorem tyX15_ok : ∀ k, k < 19 → parseFieldDescriptor (TX15 k).2.2.1 = some (tyX15 k) := by decide +kernel
abbrev cX15_in : ByteArray := prog_14_method_1_code
def yX15_in : MethodName := ⟨RX15, "in", "(III)Z"⟩
abbrev cX15_init : ByteArray := prog_14_method_2_code
def yX15_init : MethodName := ⟨RX15, "<init>", "()V"⟩
abbrev cX15_thrown : ByteArray := prog_14_method_3_code
def yX15_thrown : MethodName := ⟨RX15, "thrown", "()I"⟩
abbrev cX15_raises : ByteArray := prog_14_method_4_code
def yX15_raises : MethodName := ⟨RX15, "raises", "(I)I"⟩
abbrev cX15_pays : ByteArray := prog_14_method_5_code
def yX15_pays : MethodName := ⟨RX15, "pays", "(III)V"⟩
abbrev cX15_has : ByteArray := prog_14_method_6_code
def yX15_has : MethodName := ⟨RX15, "has", "(I)I"⟩
abbrev cX15_isAccount : ByteArray := prog_14_method_7_code
def yX15_isAccount : MethodName := ⟨RX15, "isAccount", "(I)Z"⟩
abbrev cX15_balance : ByteArray := prog_14_method_8_code
def yX15_balance : MethodName := ⟨RX15, "balance", "(I)I"⟩
abbrev cX15_balanceAnew : ByteArray := prog_14_method_9_code
def yX15_balanceAnew : MethodName := ⟨RX15, "balanceAnew", "(I)I"⟩
abbrev cX15_entries : ByteArray := prog_14_method_10_code
def yX15_entries : MethodName := ⟨RX15, "entries", "()I"⟩
abbrev cX15_entry : ByteArray := prog_14_method_11_code
def yX15_entry : MethodName := ⟨RX15, "entry", "(II)I"⟩
abbrev cX15_money : ByteArray := prog_14_method_12_code
def yX15_money : MethodName := ⟨RX15, "money", "()J"⟩
abbrev cX15_isPlot : ByteArray := prog_14_method_13_code
def yX15_isPlot : MethodName := ⟨RX15, "isPlot", "(I)Z"⟩
abbrev cX15_areNeighbours : ByteArray := prog_14_method_14_code
def yX15_areNeighbours : MethodName := ⟨RX15, "areNeighbours", "(II)Z"⟩
abbrev cX15_isFlooded : ByteArray := prog_14_method_15_code
def yX15_isFlooded : MethodName := ⟨RX15, "isFlooded", "(I)Z"⟩
abbrev cX15_costs : ByteArray := prog_14_method_16_code
def yX15_costs : MethodName := ⟨RX15, "costs", "(II[I)[I"⟩
abbrev cX15_wayOf : ByteArray := prog_14_method_17_code
def yX15_wayOf : MethodName := ⟨RX15, "wayOf", "(II[I)Ljava/util/ArrayList;"⟩
abbrev cX15_ones : ByteArray := prog_14_method_18_code
def yX15_ones : MethodName := ⟨RX15, "ones", "()[I"⟩
abbrev cX15_roads : ByteArray := prog_14_method_19_code
def yX15_roads : MethodName := ⟨RX15, "roads", "(II)I"⟩
abbrev cX15_hasWay : ByteArray := prog_14_method_20_code
def yX15_hasWay : MethodName := ⟨RX15, "hasWay", "(II)Z"⟩
abbrev cX15_setHeight : ByteArray := prog_14_method_21_code
def yX15_setHeight : MethodName := ⟨RX15, "setHeight", "(II)I"⟩
abbrev cX15_setRiver : ByteArray := prog_14_method_22_code
def yX15_setRiver : MethodName := ⟨RX15, "setRiver", "(I)I"⟩
abbrev cX15_way : ByteArray := prog_14_method_23_code
def yX15_way : MethodName := ⟨RX15, "way", "(II)I"⟩
abbrev cX15_objections : ByteArray := prog_14_method_24_code
def yX15_objections : MethodName := ⟨RX15, "objections", "(IC)I"⟩
abbrev cX15_build : ByteArray := prog_14_method_25_code
def yX15_build : MethodName := ⟨RX15, "build", "(IC)Z"⟩
abbrev cX15_dweller : ByteArray := prog_14_method_26_code
def yX15_dweller : MethodName := ⟨RX15, "dweller", "(I)LHundredwardModel$Household;"⟩
abbrev cX15_firmOn : ByteArray := prog_14_method_27_code
def yX15_firmOn : MethodName := ⟨RX15, "firmOn", "(I)LHundredwardModel$Firm;"⟩
abbrev cX15_takeDown : ByteArray := prog_14_method_28_code
def yX15_takeDown : MethodName := ⟨RX15, "takeDown", "(I)C"⟩
abbrev cX15_setTolerance : ByteArray := prog_14_method_29_code
def yX15_setTolerance : MethodName := ⟨RX15, "setTolerance", "(I)I"⟩
abbrev cX15_lawOf : ByteArray := prog_14_method_30_code
def yX15_lawOf : MethodName := ⟨RX15, "lawOf", "(C)I"⟩
abbrev cX15_isForLess : ByteArray := prog_14_method_31_code
def yX15_isForLess : MethodName := ⟨RX15, "isForLess", "(LHundredwardModel$Household;C)Z"⟩
abbrev cX15_cutRents : ByteArray := prog_14_method_32_code
def yX15_cutRents : MethodName := ⟨RX15, "cutRents", "()V"⟩
abbrev cX15_vote : ByteArray := prog_14_method_33_code
def yX15_vote : MethodName := ⟨RX15, "vote", "(CI)Z"⟩
abbrev cX15_law : ByteArray := prog_14_method_34_code
def yX15_law : MethodName := ⟨RX15, "law", "(C)I"⟩
abbrev cX15_builtOn : ByteArray := prog_14_method_35_code
def yX15_builtOn : MethodName := ⟨RX15, "builtOn", "(I)C"⟩
abbrev cX15_nameOf : ByteArray := prog_14_method_36_code
def yX15_nameOf : MethodName := ⟨RX15, "nameOf", "(I)I"⟩
abbrev cX15_rentOf : ByteArray := prog_14_method_37_code
def yX15_rentOf : MethodName := ⟨RX15, "rentOf", "(I)I"⟩
abbrev cX15_load : ByteArray := prog_14_method_38_code
def yX15_load : MethodName := ⟨RX15, "load", "(I)I"⟩
abbrev cX15_hadWater : ByteArray := prog_14_method_39_code
def yX15_hadWater : MethodName := ⟨RX15, "hadWater", "(I)Z"⟩
abbrev cX15_losesHome : ByteArray := prog_14_method_40_code
def yX15_losesHome : MethodName := ⟨RX15, "losesHome", "(LHundredwardModel$Household;)V"⟩
abbrev cX15_goes : ByteArray := prog_14_method_41_code
def yX15_goes : MethodName := ⟨RX15, "goes", "(LHundredwardModel$Household;)I"⟩
abbrev cX15_arrive : ByteArray := prog_14_method_42_code
def yX15_arrive : MethodName := ⟨RX15, "arrive", "(II)I"⟩
abbrev cX15_household : ByteArray := prog_14_method_43_code
def yX15_household : MethodName := ⟨RX15, "household", "(I)LHundredwardModel$Household;"⟩
abbrev cX15_firm : ByteArray := prog_14_method_44_code
def yX15_firm : MethodName := ⟨RX15, "firm", "(I)LHundredwardModel$Firm;"⟩
abbrev cX15_leave : ByteArray := prog_14_method_45_code
def yX15_leave : MethodName := ⟨RX15, "leave", "(I)I"⟩
abbrev cX15_found : ByteArray := prog_14_method_46_code
def yX15_found : MethodName := ⟨RX15, "found", "(III)I"⟩
abbrev cX15_setPay : ByteArray := prog_14_method_47_code
def yX15_setPay : MethodName := ⟨RX15, "setPay", "(III)I"⟩
abbrev cX15_homeOf : ByteArray := prog_14_method_48_code
def yX15_homeOf : MethodName := ⟨RX15, "homeOf", "(I)I"⟩
abbrev cX15_firmOf : ByteArray := prog_14_method_49_code
def yX15_firmOf : MethodName := ⟨RX15, "firmOf", "(I)I"⟩
abbrev cX15_hungerOf : ByteArray := prog_14_method_50_code
def yX15_hungerOf : MethodName := ⟨RX15, "hungerOf", "(I)I"⟩
abbrev cX15_costOf : ByteArray := prog_14_method_51_code
def yX15_costOf : MethodName := ⟨RX15, "costOf", "(I)I"⟩
abbrev cX15_stockOf : ByteArray := prog_14_method_52_code
def yX15_stockOf : MethodName := ⟨RX15, "stockOf", "(I)I"⟩
abbrev cX15_creditOf : ByteArray := prog_14_method_53_code
def yX15_creditOf : MethodName := ⟨RX15, "creditOf", "(I)I"⟩
abbrev cX15_workers : ByteArray := prog_14_method_54_code
def yX15_workers : MethodName := ⟨RX15, "workers", "(LHundredwardModel$Firm;)I"⟩
abbrev cX15_workersOf : ByteArray := prog_14_method_55_code
def yX15_workersOf : MethodName := ⟨RX15, "workersOf", "(I)I"⟩
abbrev cX15_borrow : ByteArray := prog_14_method_56_code
def yX15_borrow : MethodName := ⟨RX15, "borrow", "(I)I"⟩
abbrev cX15_names : ByteArray := prog_14_method_57_code
def yX15_names : MethodName := ⟨RX15, "names", "(II)V"⟩
abbrev cX15_floods : ByteArray := prog_14_method_58_code
def yX15_floods : MethodName := ⟨RX15, "floods", "()V"⟩
abbrev cX15_houses : ByteArray := prog_14_method_59_code
def yX15_houses : MethodName := ⟨RX15, "houses", "()V"⟩
abbrev cX15_jobs : ByteArray := prog_14_method_60_code
def yX15_jobs : MethodName := ⟨RX15, "jobs", "(LHundredwardModel$Firm;)I"⟩
abbrev cX15_hires : ByteArray := prog_14_method_61_code
def yX15_hires : MethodName := ⟨RX15, "hires", "()V"⟩
abbrev cX15_loadsBut : ByteArray := prog_14_method_62_code
def yX15_loadsBut : MethodName := ⟨RX15, "loadsBut", "(LHundredwardModel$Household;)[I"⟩
abbrev cX15_costOf_ : ByteArray := prog_14_method_63_code
def yX15_costOf_ : MethodName := ⟨RX15, "costOf", "(Ljava/util/ArrayList;[I)I"⟩
abbrev cX15_routes : ByteArray := prog_14_method_64_code
def yX15_routes : MethodName := ⟨RX15, "routes", "()V"⟩
abbrev cX15_waters : ByteArray := prog_14_method_65_code
def yX15_waters : MethodName := ⟨RX15, "waters", "()V"⟩
abbrev cX15_works : ByteArray := prog_14_method_66_code
def yX15_works : MethodName := ⟨RX15, "works", "()V"⟩
abbrev cX15_paysWage : ByteArray := prog_14_method_67_code
def yX15_paysWage : MethodName := ⟨RX15, "paysWage", "(LHundredwardModel$Household;LHundredwardModel$Firm;)V"⟩
abbrev cX15_cheapest : ByteArray := prog_14_method_68_code
def yX15_cheapest : MethodName := ⟨RX15, "cheapest", "(ZI)LHundredwardModel$Firm;"⟩
abbrev cX15_freights : ByteArray := prog_14_method_69_code
def yX15_freights : MethodName := ⟨RX15, "freights", "()V"⟩
abbrev cX15_shops : ByteArray := prog_14_method_70_code
def yX15_shops : MethodName := ⟨RX15, "shops", "()V"⟩
abbrev cX15_paysRents : ByteArray := prog_14_method_71_code
def yX15_paysRents : MethodName := ⟨RX15, "paysRents", "()V"⟩
abbrev cX15_fails : ByteArray := prog_14_method_72_code
def yX15_fails : MethodName := ⟨RX15, "fails", "(LHundredwardModel$Firm;)V"⟩
abbrev cX15_townFails : ByteArray := prog_14_method_73_code
def yX15_townFails : MethodName := ⟨RX15, "townFails", "()V"⟩
abbrev cX15_interest : ByteArray := prog_14_method_74_code
def yX15_interest : MethodName := ⟨RX15, "interest", "()V"⟩
abbrev cX15_repays : ByteArray := prog_14_method_75_code
def yX15_repays : MethodName := ⟨RX15, "repays", "()V"⟩
abbrev cX15_tells : ByteArray := prog_14_method_76_code
def yX15_tells : MethodName := ⟨RX15, "tells", "()V"⟩
abbrev cX15_pass : ByteArray := prog_14_method_77_code
def yX15_pass : MethodName := ⟨RX15, "pass", "(I)I"⟩
abbrev cX15_bonds : ByteArray := prog_14_method_78_code
def yX15_bonds : MethodName := ⟨RX15, "bonds", "()I"⟩
abbrev cX15_failures : ByteArray := prog_14_method_79_code
def yX15_failures : MethodName := ⟨RX15, "failures", "()I"⟩
abbrev cX15_there : ByteArray := prog_14_method_80_code
def yX15_there : MethodName := ⟨RX15, "there", "()I"⟩
abbrev cX15_households : ByteArray := prog_14_method_81_code
def yX15_households : MethodName := ⟨RX15, "households", "()I"⟩
abbrev cX15_workingShare : ByteArray := prog_14_method_82_code
def yX15_workingShare : MethodName := ⟨RX15, "workingShare", "()F"⟩
abbrev cX15_meanRent : ByteArray := prog_14_method_83_code
def yX15_meanRent : MethodName := ⟨RX15, "meanRent", "()D"⟩
abbrev cX15_isBalanced : ByteArray := prog_14_method_84_code
def yX15_isBalanced : MethodName := ⟨RX15, "isBalanced", "()Z"⟩
def RJx145de : String := "java/io/Serializable"
def TJx145de : u_T := fun k => match k with
  | _ => ("", "", "", false)
def tyJx145de : Nat → FieldType := fun k => match k with
  | _ => .int
abbrev wsJx145de0 : List Cond := u_ws RJx145de TJx145de 0
theorem nmJx145de : ∀ a, a < 0 → ∀ b, b < 0 → a ≠ b → (TJx145de a).2.1 ≠ (TJx145de b).2.1 := by decide +kernel
theorem tyJx145de_ok : ∀ k, k < 0 → parseFieldDescriptor (TJx145de k).2.2.1 = some (tyJx145de k) := by decide +kernel
def RJx00060 : String := "java/lang/ArrayIndexOutOfBoundsException"
def TJx00060 : u_T := fun k => match k with
  | 0 => ("java/lang/Throwable", "backtrace", "Ljava/lang/Object;", false)
  | 1 => ("java/lang/Throwable", "detailMessage", "Ljava/lang/String;", false)
  | 2 => ("java/lang/Throwable", "cause", "Ljava/lang/Throwable;", false)
  | 3 => ("java/lang/Throwable", "stackTrace", "[Ljava/lang/StackTraceElement;", false)
  | 4 => ("java/lang/Throwable", "depth", "I", false)
  | _ => ("java/lang/Throwable", "suppressedExceptions", "Ljava/util/List;", false)
def tyJx00060 : Nat → FieldType := fun k => match k with
  | 0 => .object "java/lang/Object"
  | 1 => .object "java/lang/String"
  | 2 => .object "java/lang/Throwable"
  | 3 => .array (.object "java/lang/StackTraceElement")
  | 4 => .int
  | _ => .object "java/util/List"
abbrev wsJx000600 : List Cond := u_ws RJx00060 TJx00060 6
theorem nmJx00060 : ∀ a, a < 6 → ∀ b, b < 6 → a ≠ b → (TJx00060 a).2.1 ≠ (TJx00060 b).2.1 := by decide +kernel
theorem tyJx00060_ok : ∀ k, k < 6 → parseFieldDescriptor (TJx00060 k).2.2.1 = some (tyJx00060 k) := by decide +kernel
abbrev cJx00060_init_a7421 : ByteArray := prog_20_method_2_code
def yJx00060_init_a7421 : MethodName := ⟨RJx00060, "<init>", "(Ljava/lang/String;)V"⟩
def RJx9f9b0 : String := "java/lang/CharSequence"
def TJx9f9b0 : u_T := fun k => match k with
  | _ => ("", "", "", false)
def tyJx9f9b0 : Nat → FieldType := fun k => match k with
  | _ => .int
abbrev wsJx9f9b00 : List Cond := u_ws RJx9f9b0 TJx9f9b0 0
theorem nmJx9f9b0 : ∀ a, a < 0 → ∀ b, b < 0 → a ≠ b → (TJx9f9b0 a).2.1 ≠ (TJx9f9b0 b).2.1 := by decide +kernel
theorem tyJx9f9b0_ok : ∀ k, k < 0 → parseFieldDescriptor (TJx9f9b0 k).2.2.1 = some (tyJx9f9b0 k) := by decide +kernel
def RJ11 : String := "java/lang/Character"
def TJ11 : u_T := fun k => match k with
  | _ => ("", "", "", false)
def tyJ11 : Nat → FieldType := fun k => match k with
  | _ => .int
abbrev wsJ110 : List Cond := u_ws RJ11 TJ11 0
theorem nmJ11 : ∀ a, a < 0 → ∀ b, b < 0 → a ≠ b → (TJ11 a).2.1 ≠ (TJ11 b).2.1 := by decide +kernel
theorem tyJ11_ok : ∀ k, k < 0 → parseFieldDescriptor (TJ11 k).2.2.1 = some (tyJ11 k) := by decide +kernel
abbrev cJ11_isValidCodePoint_9a6ad : ByteArray := prog_22_method_11_code
def yJ11_isValidCodePoint_9a6ad : MethodName := ⟨RJ11, "isValidCodePoint", "(I)Z"⟩
abbrev cJ11_highSurrogate_5068e : ByteArray := prog_22_method_28_code
def yJ11_highSurrogate_5068e : MethodName := ⟨RJ11, "highSurrogate", "(I)C"⟩
abbrev cJ11_lowSurrogate_5068e : ByteArray := prog_22_method_29_code
def yJ11_lowSurrogate_5068e : MethodName := ⟨RJ11, "lowSurrogate", "(I)C"⟩
def RJx8e188 : String := "java/lang/Cloneable"
def TJx8e188 : u_T := fun k => match k with
  | _ => ("", "", "", false)
def tyJx8e188 : Nat → FieldType := fun k => match k with
  | _ => .int
abbrev wsJx8e1880 : List Cond := u_ws RJx8e188 TJx8e188 0
theorem nmJx8e188 : ∀ a, a < 0 → ∀ b, b < 0 → a ≠ b → (TJx8e188 a).2.1 ≠ (TJx8e188 b).2.1 := by decide +kernel
theorem tyJx8e188_ok : ∀ k, k < 0 → parseFieldDescriptor (TJx8e188 k).2.2.1 = some (tyJx8e188 k) := by decide +kernel
def RJxb160c : String := "java/lang/Comparable"
def TJxb160c : u_T := fun k => match k with
  | _ => ("", "", "", false)
def tyJxb160c : Nat → FieldType := fun k => match k with
  | _ => .int
abbrev wsJxb160c0 : List Cond := u_ws RJxb160c TJxb160c 0
theorem nmJxb160c : ∀ a, a < 0 → ∀ b, b < 0 → a ≠ b → (TJxb160c a).2.1 ≠ (TJxb160c b).2.1 := by decide +kernel
theorem tyJxb160c_ok : ∀ k, k < 0 → parseFieldDescriptor (TJxb160c k).2.2.1 = some (tyJxb160c k) := by decide +kernel
def RJxabbfe : String := "java/lang/Integer$IntegerCache"
def TJxabbfe : u_T := fun k => match k with
  | _ => ("", "", "", false)
def tyJxabbfe : Nat → FieldType := fun k => match k with
  | _ => .int
abbrev wsJxabbfe0 : List Cond := u_ws RJxabbfe TJxabbfe 0
theorem nmJxabbfe : ∀ a, a < 0 → ∀ b, b < 0 → a ≠ b → (TJxabbfe a).2.1 ≠ (TJxabbfe b).2.1 := by decide +kernel
theorem tyJxabbfe_ok : ∀ k, k < 0 → parseFieldDescriptor (TJxabbfe k).2.2.1 = some (tyJxabbfe k) := by decide +kernel
def RJ6 : String := "java/lang/Integer"
def TJ6 : u_T := fun k => match k with
  | _ => ("java/lang/Integer", "value", "I", true)
def tyJ6 : Nat → FieldType := fun k => match k with
  | _ => .int
abbrev wsJ60 : List Cond := u_ws RJ6 TJ6 1
theorem nmJ6 : ∀ a, a < 1 → ∀ b, b < 1 → a ≠ b → (TJ6 a).2.1 ≠ (TJ6 b).2.1 := by decide +kernel
theorem tyJ6_ok : ∀ k, k < 1 → parseFieldDescriptor (TJ6 k).2.2.1 = some (tyJ6 k) := by decide +kernel
abbrev cJ6_valueOf_2dffe : ByteArray := prog_29_method_22_code
def yJ6_valueOf_2dffe : MethodName := ⟨RJ6, "valueOf", "(I)Ljava/lang/Integer;"⟩
abbrev cJ6_init_d00df : ByteArray := prog_29_method_23_code
def yJ6_init_d00df : MethodName := ⟨RJ6, "<init>", "(I)V"⟩
abbrev cJ6_intValue_8abf5 : ByteArray := prog_29_method_27_code
def yJ6_intValue_8abf5 : MethodName := ⟨RJ6, "intValue", "()I"⟩
def RJxab1ab : String := "java/lang/Iterable"
def TJxab1ab : u_T := fun k => match k with
  | _ => ("", "", "", false)
def tyJxab1ab : Nat → FieldType := fun k => match k with
  | _ => .int
abbrev wsJxab1ab0 : List Cond := u_ws RJxab1ab TJxab1ab 0
theorem nmJxab1ab : ∀ a, a < 0 → ∀ b, b < 0 → a ≠ b → (TJxab1ab a).2.1 ≠ (TJxab1ab b).2.1 := by decide +kernel
theorem tyJxab1ab_ok : ∀ k, k < 0 → parseFieldDescriptor (TJxab1ab k).2.2.1 = some (tyJxab1ab k) := by decide +kernel
def RJ9 : String := "java/lang/Math"
def TJ9 : u_T := fun k => match k with
  | _ => ("", "", "", false)
def tyJ9 : Nat → FieldType := fun k => match k with
  | _ => .int
abbrev wsJ90 : List Cond := u_ws RJ9 TJ9 0
theorem nmJ9 : ∀ a, a < 0 → ∀ b, b < 0 → a ≠ b → (TJ9 a).2.1 ≠ (TJ9 b).2.1 := by decide +kernel
theorem tyJ9_ok : ∀ k, k < 0 → parseFieldDescriptor (TJ9 k).2.2.1 = some (tyJ9 k) := by decide +kernel
abbrev cJ9_abs_0f7a4 : ByteArray := prog_32_method_59_code
def yJ9_abs_0f7a4 : MethodName := ⟨RJ9, "abs", "(I)I"⟩
abbrev cJ9_max_7cf53 : ByteArray := prog_32_method_65_code
def yJ9_max_7cf53 : MethodName := ⟨RJ9, "max", "(II)I"⟩
abbrev cJ9_min_7cf53 : ByteArray := prog_32_method_69_code
def yJ9_min_7cf53 : MethodName := ⟨RJ9, "min", "(II)I"⟩
def RJxd2413 : String := "java/lang/Number"
def TJxd2413 : u_T := fun k => match k with
  | _ => ("", "", "", false)
def tyJxd2413 : Nat → FieldType := fun k => match k with
  | _ => .int
abbrev wsJxd24130 : List Cond := u_ws RJxd2413 TJxd2413 0
theorem nmJxd2413 : ∀ a, a < 0 → ∀ b, b < 0 → a ≠ b → (TJxd2413 a).2.1 ≠ (TJxd2413 b).2.1 := by decide +kernel
theorem tyJxd2413_ok : ∀ k, k < 0 → parseFieldDescriptor (TJxd2413 k).2.2.1 = some (tyJxd2413 k) := by decide +kernel
abbrev cJxd2413_init_da8c8 : ByteArray := prog_33_method_1_code
def yJxd2413_init_da8c8 : MethodName := ⟨RJxd2413, "<init>", "()V"⟩
def RJ0 : String := "java/lang/String"
def TJ0 : u_T := fun k => match k with
  | 0 => ("java/lang/String", "value", "[B", true)
  | _ => ("java/lang/String", "coder", "B", true)
def tyJ0 : Nat → FieldType := fun k => match k with
  | 0 => .array .byte
  | _ => .byte
abbrev wsJ00 : List Cond := u_ws RJ0 TJ0 2
theorem nmJ0 : ∀ a, a < 2 → ∀ b, b < 2 → a ≠ b → (TJ0 a).2.1 ≠ (TJ0 b).2.1 := by decide +kernel
theorem tyJ0_ok : ∀ k, k < 2 → parseFieldDescriptor (TJ0 k).2.2.1 = some (tyJ0 k) := by decide +kernel
abbrev cJ0_length_8abf5 : ByteArray := prog_35_method_54_code
def yJ0_length_8abf5 : MethodName := ⟨RJ0, "length", "()I"⟩
abbrev cJ0_indexOf_0f7a4 : ByteArray := prog_35_method_79_code
def yJ0_indexOf_0f7a4 : MethodName := ⟨RJ0, "indexOf", "(I)I"⟩
abbrev cJ0_indexOf_7cf53 : ByteArray := prog_35_method_80_code
def yJ0_indexOf_7cf53 : MethodName := ⟨RJ0, "indexOf", "(II)I"⟩
abbrev cJ0_coder_7d493 : ByteArray := prog_35_method_152_code
def yJ0_coder_7d493 : MethodName := ⟨RJ0, "coder", "()B"⟩
abbrev cJ0_isLatin1_aae02 : ByteArray := prog_35_method_154_code
def yJ0_isLatin1_aae02 : MethodName := ⟨RJ0, "isLatin1", "()Z"⟩
abbrev cJ0_checkBoundsBeginEnd_23922 : ByteArray := prog_35_method_158_code
def yJ0_checkBoundsBeginEnd_23922 : MethodName := ⟨RJ0, "checkBoundsBeginEnd", "(III)V"⟩
def RJ1 : String := "java/lang/StringLatin1"
def TJ1 : u_T := fun k => match k with
  | _ => ("", "", "", false)
def tyJ1 : Nat → FieldType := fun k => match k with
  | _ => .int
abbrev wsJ10 : List Cond := u_ws RJ1 TJ1 0
theorem nmJ1 : ∀ a, a < 0 → ∀ b, b < 0 → a ≠ b → (TJ1 a).2.1 ≠ (TJ1 b).2.1 := by decide +kernel
theorem tyJ1_ok : ∀ k, k < 0 → parseFieldDescriptor (TJ1 k).2.2.1 = some (tyJ1 k) := by decide +kernel
abbrev cJ1_canEncode_9a6ad : ByteArray := prog_36_method_4_code
def yJ1_canEncode_9a6ad : MethodName := ⟨RJ1, "canEncode", "(I)Z"⟩
abbrev cJ1_indexOf_4cfef : ByteArray := prog_36_method_22_code
def yJ1_indexOf_4cfef : MethodName := ⟨RJ1, "indexOf", "([BIII)I"⟩
abbrev cJ1_indexOfChar_4cfef : ByteArray := prog_36_method_23_code
def yJ1_indexOfChar_4cfef : MethodName := ⟨RJ1, "indexOfChar", "([BIII)I"⟩
def RJ2 : String := "java/lang/StringUTF16"
def TJ2 : u_T := fun k => match k with
  | _ => ("", "", "", false)
def tyJ2 : Nat → FieldType := fun k => match k with
  | _ => .int
abbrev wsJ20 : List Cond := u_ws RJ2 TJ2 0
theorem nmJ2 : ∀ a, a < 0 → ∀ b, b < 0 → a ≠ b → (TJ2 a).2.1 ≠ (TJ2 b).2.1 := by decide +kernel
theorem tyJ2_ok : ∀ k, k < 0 → parseFieldDescriptor (TJ2 k).2.2.1 = some (tyJ2 k) := by decide +kernel
abbrev cJ2_getChar_3b067 : ByteArray := prog_37_method_5_code
def yJ2_getChar_3b067 : MethodName := ⟨RJ2, "getChar", "([BI)C"⟩
abbrev cJ2_length_9d52b : ByteArray := prog_37_method_6_code
def yJ2_length_9d52b : MethodName := ⟨RJ2, "length", "([B)I"⟩
abbrev cJ2_indexOf_4cfef : ByteArray := prog_37_method_40_code
def yJ2_indexOf_4cfef : MethodName := ⟨RJ2, "indexOf", "([BIII)I"⟩
abbrev cJ2_indexOfChar_4cfef : ByteArray := prog_37_method_47_code
def yJ2_indexOfChar_4cfef : MethodName := ⟨RJ2, "indexOfChar", "([BIII)I"⟩
abbrev cJ2_indexOfCharUnsafe_4cfef : ByteArray := prog_37_method_48_code
def yJ2_indexOfCharUnsafe_4cfef : MethodName := ⟨RJ2, "indexOfCharUnsafe", "([BIII)I"⟩
abbrev cJ2_indexOfSupplementary_4cfef : ByteArray := prog_37_method_49_code
def yJ2_indexOfSupplementary_4cfef : MethodName := ⟨RJ2, "indexOfSupplementary", "([BIII)I"⟩
abbrev cJ2_checkBoundsBeginEnd_d044e : ByteArray := prog_37_method_93_code
def yJ2_checkBoundsBeginEnd_d044e : MethodName := ⟨RJ2, "checkBoundsBeginEnd", "(II[B)V"⟩
def RJ10 : String := "java/lang/System"
def TJ10 : u_T := fun k => match k with
  | _ => ("", "", "", false)
def tyJ10 : Nat → FieldType := fun k => match k with
  | _ => .int
abbrev wsJ100 : List Cond := u_ws RJ10 TJ10 0
theorem nmJ10 : ∀ a, a < 0 → ∀ b, b < 0 → a ≠ b → (TJ10 a).2.1 ≠ (TJ10 b).2.1 := by decide +kernel
theorem tyJ10_ok : ∀ k, k < 0 → parseFieldDescriptor (TJ10 k).2.2.1 = some (tyJ10 k) := by decide +kernel
def RJxfd54e : String := "java/lang/constant/Constable"
def TJxfd54e : u_T := fun k => match k with
  | _ => ("", "", "", false)
def tyJxfd54e : Nat → FieldType := fun k => match k with
  | _ => .int
abbrev wsJxfd54e0 : List Cond := u_ws RJxfd54e TJxfd54e 0
theorem nmJxfd54e : ∀ a, a < 0 → ∀ b, b < 0 → a ≠ b → (TJxfd54e a).2.1 ≠ (TJxfd54e b).2.1 := by decide +kernel
theorem tyJxfd54e_ok : ∀ k, k < 0 → parseFieldDescriptor (TJxfd54e k).2.2.1 = some (tyJxfd54e k) := by decide +kernel
def RJx3cf43 : String := "java/lang/constant/ConstantDesc"
def TJx3cf43 : u_T := fun k => match k with
  | _ => ("", "", "", false)
def tyJx3cf43 : Nat → FieldType := fun k => match k with
  | _ => .int
abbrev wsJx3cf430 : List Cond := u_ws RJx3cf43 TJx3cf43 0
theorem nmJx3cf43 : ∀ a, a < 0 → ∀ b, b < 0 → a ≠ b → (TJx3cf43 a).2.1 ≠ (TJx3cf43 b).2.1 := by decide +kernel
theorem tyJx3cf43_ok : ∀ k, k < 0 → parseFieldDescriptor (TJx3cf43 k).2.2.1 = some (tyJx3cf43 k) := by decide +kernel
def RJxa1e45 : String := "java/util/AbstractCollection"
def TJxa1e45 : u_T := fun k => match k with
  | _ => ("", "", "", false)
def tyJxa1e45 : Nat → FieldType := fun k => match k with
  | _ => .int
abbrev wsJxa1e450 : List Cond := u_ws RJxa1e45 TJxa1e45 0
theorem nmJxa1e45 : ∀ a, a < 0 → ∀ b, b < 0 → a ≠ b → (TJxa1e45 a).2.1 ≠ (TJxa1e45 b).2.1 := by decide +kernel
theorem tyJxa1e45_ok : ∀ k, k < 0 → parseFieldDescriptor (TJxa1e45 k).2.2.1 = some (tyJxa1e45 k) := by decide +kernel
abbrev cJxa1e45_init_da8c8 : ByteArray := prog_42_method_1_code
def yJxa1e45_init_da8c8 : MethodName := ⟨RJxa1e45, "<init>", "()V"⟩
def RJxc12de : String := "java/util/AbstractList"
def TJxc12de : u_T := fun k => match k with
  | _ => ("", "", "", false)
def tyJxc12de : Nat → FieldType := fun k => match k with
  | _ => .int
abbrev wsJxc12de0 : List Cond := u_ws RJxc12de TJxc12de 0
theorem nmJxc12de : ∀ a, a < 0 → ∀ b, b < 0 → a ≠ b → (TJxc12de a).2.1 ≠ (TJxc12de b).2.1 := by decide +kernel
theorem tyJxc12de_ok : ∀ k, k < 0 → parseFieldDescriptor (TJxc12de k).2.2.1 = some (tyJxc12de k) := by decide +kernel
abbrev cJxc12de_init_da8c8 : ByteArray := prog_43_method_1_code
def yJxc12de_init_da8c8 : MethodName := ⟨RJxc12de, "<init>", "()V"⟩
def RJx35411 : String := "java/util/ArrayList$Itr"
def TJx35411 : u_T := fun k => match k with
  | 0 => ("java/util/ArrayList$Itr", "cursor", "I", false)
  | 1 => ("java/util/ArrayList$Itr", "lastRet", "I", false)
  | 2 => ("java/util/ArrayList$Itr", "expectedModCount", "I", false)
  | _ => ("java/util/ArrayList$Itr", "this$0", "Ljava/util/ArrayList;", true)
def tyJx35411 : Nat → FieldType := fun k => match k with
  | 0 => .int
  | 1 => .int
  | 2 => .int
  | _ => .object "java/util/ArrayList"
abbrev wsJx354110 : List Cond := u_ws RJx35411 TJx35411 4
theorem nmJx35411 : ∀ a, a < 4 → ∀ b, b < 4 → a ≠ b → (TJx35411 a).2.1 ≠ (TJx35411 b).2.1 := by decide +kernel
theorem tyJx35411_ok : ∀ k, k < 4 → parseFieldDescriptor (TJx35411 k).2.2.1 = some (tyJx35411 k) := by decide +kernel
abbrev cJx35411_init_45d68 : ByteArray := prog_45_method_1_code
def yJx35411_init_45d68 : MethodName := ⟨RJx35411, "<init>", "(Ljava/util/ArrayList;)V"⟩
abbrev cJx35411_hasNext_aae02 : ByteArray := prog_45_method_2_code
def yJx35411_hasNext_aae02 : MethodName := ⟨RJx35411, "hasNext", "()Z"⟩
abbrev cJx35411_next_0502b : ByteArray := prog_45_method_3_code
def yJx35411_next_0502b : MethodName := ⟨RJx35411, "next", "()Ljava/lang/Object;"⟩
abbrev cJx35411_checkForComodification_da8c8 : ByteArray := prog_45_method_6_code
def yJx35411_checkForComodification_da8c8 : MethodName := ⟨RJx35411, "checkForComodification", "()V"⟩
def RJx4a65c : String := "java/util/ArrayList"
def TJx4a65c : u_T := fun k => match k with
  | 0 => ("java/util/AbstractList", "modCount", "I", false)
  | 1 => ("java/util/ArrayList", "elementData", "[Ljava/lang/Object;", false)
  | _ => ("java/util/ArrayList", "size", "I", false)
def tyJx4a65c : Nat → FieldType := fun k => match k with
  | 0 => .int
  | 1 => .array (.object "java/lang/Object")
  | _ => .int
abbrev wsJx4a65c0 : List Cond := u_ws RJx4a65c TJx4a65c 3
theorem nmJx4a65c : ∀ a, a < 3 → ∀ b, b < 3 → a ≠ b → (TJx4a65c a).2.1 ≠ (TJx4a65c b).2.1 := by decide +kernel
theorem tyJx4a65c_ok : ∀ k, k < 3 → parseFieldDescriptor (TJx4a65c k).2.2.1 = some (tyJx4a65c k) := by decide +kernel
abbrev cJx4a65c_init_da8c8 : ByteArray := prog_44_method_2_code
def yJx4a65c_init_da8c8 : MethodName := ⟨RJx4a65c, "<init>", "()V"⟩
abbrev cJx4a65c_grow_92f84 : ByteArray := prog_44_method_6_code
def yJx4a65c_grow_92f84 : MethodName := ⟨RJx4a65c, "grow", "(I)[Ljava/lang/Object;"⟩
abbrev cJx4a65c_grow_d5877 : ByteArray := prog_44_method_7_code
def yJx4a65c_grow_d5877 : MethodName := ⟨RJx4a65c, "grow", "()[Ljava/lang/Object;"⟩
abbrev cJx4a65c_size_8abf5 : ByteArray := prog_44_method_8_code
def yJx4a65c_size_8abf5 : MethodName := ⟨RJx4a65c, "size", "()I"⟩
abbrev cJx4a65c_isEmpty_aae02 : ByteArray := prog_44_method_9_code
def yJx4a65c_isEmpty_aae02 : MethodName := ⟨RJx4a65c, "isEmpty", "()Z"⟩
abbrev cJx4a65c_elementData_915e3 : ByteArray := prog_44_method_18_code
def yJx4a65c_elementData_915e3 : MethodName := ⟨RJx4a65c, "elementData", "(I)Ljava/lang/Object;"⟩
abbrev cJx4a65c_get_915e3 : ByteArray := prog_44_method_20_code
def yJx4a65c_get_915e3 : MethodName := ⟨RJx4a65c, "get", "(I)Ljava/lang/Object;"⟩
abbrev cJx4a65c_add_72be8 : ByteArray := prog_44_method_24_code
def yJx4a65c_add_72be8 : MethodName := ⟨RJx4a65c, "add", "(Ljava/lang/Object;[Ljava/lang/Object;I)V"⟩
abbrev cJx4a65c_add_9ea2d : ByteArray := prog_44_method_25_code
def yJx4a65c_add_9ea2d : MethodName := ⟨RJx4a65c, "add", "(Ljava/lang/Object;)Z"⟩
abbrev cJx4a65c_iterator_32c93 : ByteArray := prog_44_method_55_code
def yJx4a65c_iterator_32c93 : MethodName := ⟨RJx4a65c, "iterator", "()Ljava/util/Iterator;"⟩
def RJ7 : String := "java/util/Arrays"
def TJ7 : u_T := fun k => match k with
  | _ => ("", "", "", false)
def tyJ7 : Nat → FieldType := fun k => match k with
  | _ => .int
abbrev wsJ70 : List Cond := u_ws RJ7 TJ7 0
theorem nmJ7 : ∀ a, a < 0 → ∀ b, b < 0 → a ≠ b → (TJ7 a).2.1 ≠ (TJ7 b).2.1 := by decide +kernel
theorem tyJ7_ok : ∀ k, k < 0 → parseFieldDescriptor (TJ7 k).2.2.1 = some (tyJ7 k) := by decide +kernel
abbrev cJ7_copyOf_1904c : ByteArray := prog_46_method_119_code
def yJ7_copyOf_1904c : MethodName := ⟨RJ7, "copyOf", "([Ljava/lang/Object;I)[Ljava/lang/Object;"⟩
abbrev cJ7_copyOf_6403c : ByteArray := prog_46_method_120_code
def yJ7_copyOf_6403c : MethodName := ⟨RJ7, "copyOf", "([Ljava/lang/Object;ILjava/lang/Class;)[Ljava/lang/Object;"⟩
def RJx5ef63 : String := "java/util/Collection"
def TJx5ef63 : u_T := fun k => match k with
  | _ => ("", "", "", false)
def tyJx5ef63 : Nat → FieldType := fun k => match k with
  | _ => .int
abbrev wsJx5ef630 : List Cond := u_ws RJx5ef63 TJx5ef63 0
theorem nmJx5ef63 : ∀ a, a < 0 → ∀ b, b < 0 → a ≠ b → (TJx5ef63 a).2.1 ≠ (TJx5ef63 b).2.1 := by decide +kernel
theorem tyJx5ef63_ok : ∀ k, k < 0 → parseFieldDescriptor (TJx5ef63 k).2.2.1 = some (tyJx5ef63 k) := by decide +kernel
def RJx4d0d8 : String := "java/util/Iterator"
def TJx4d0d8 : u_T := fun k => match k with
  | _ => ("", "", "", false)
def tyJx4d0d8 : Nat → FieldType := fun k => match k with
  | _ => .int
abbrev wsJx4d0d80 : List Cond := u_ws RJx4d0d8 TJx4d0d8 0
theorem nmJx4d0d8 : ∀ a, a < 0 → ∀ b, b < 0 → a ≠ b → (TJx4d0d8 a).2.1 ≠ (TJx4d0d8 b).2.1 := by decide +kernel
theorem tyJx4d0d8_ok : ∀ k, k < 0 → parseFieldDescriptor (TJx4d0d8 k).2.2.1 = some (tyJx4d0d8 k) := by decide +kernel
def RJxbd725 : String := "java/util/List"
def TJxbd725 : u_T := fun k => match k with
  | _ => ("", "", "", false)
def tyJxbd725 : Nat → FieldType := fun k => match k with
  | _ => .int
abbrev wsJxbd7250 : List Cond := u_ws RJxbd725 TJxbd725 0
theorem nmJxbd725 : ∀ a, a < 0 → ∀ b, b < 0 → a ≠ b → (TJxbd725 a).2.1 ≠ (TJxbd725 b).2.1 := by decide +kernel
theorem tyJxbd725_ok : ∀ k, k < 0 → parseFieldDescriptor (TJxbd725 k).2.2.1 = some (tyJxbd725 k) := by decide +kernel
def RJ15 : String := "java/util/Objects"
def TJ15 : u_T := fun k => match k with
  | _ => ("", "", "", false)
def tyJ15 : Nat → FieldType := fun k => match k with
  | _ => .int
abbrev wsJ150 : List Cond := u_ws RJ15 TJ15 0
theorem nmJ15 : ∀ a, a < 0 → ∀ b, b < 0 → a ≠ b → (TJ15 a).2.1 ≠ (TJ15 b).2.1 := by decide +kernel
theorem tyJ15_ok : ∀ k, k < 0 → parseFieldDescriptor (TJ15 k).2.2.1 = some (tyJ15 k) := by decide +kernel
abbrev cJ15_checkIndex_7cf53 : ByteArray := prog_51_method_17_code
def yJ15_checkIndex_7cf53 : MethodName := ⟨RJ15, "checkIndex", "(II)I"⟩
def RJxf0a74 : String := "java/util/RandomAccess"
def TJxf0a74 : u_T := fun k => match k with
  | _ => ("", "", "", false)
def tyJxf0a74 : Nat → FieldType := fun k => match k with
  | _ => .int
abbrev wsJxf0a740 : List Cond := u_ws RJxf0a74 TJxf0a74 0
theorem nmJxf0a74 : ∀ a, a < 0 → ∀ b, b < 0 → a ≠ b → (TJxf0a74 a).2.1 ≠ (TJxf0a74 b).2.1 := by decide +kernel
theorem tyJxf0a74_ok : ∀ k, k < 0 → parseFieldDescriptor (TJxf0a74 k).2.2.1 = some (tyJxf0a74 k) := by decide +kernel
def RJxa66e6 : String := "java/util/SequencedCollection"
def TJxa66e6 : u_T := fun k => match k with
  | _ => ("", "", "", false)
def tyJxa66e6 : Nat → FieldType := fun k => match k with
  | _ => .int
abbrev wsJxa66e60 : List Cond := u_ws RJxa66e6 TJxa66e6 0
theorem nmJxa66e6 : ∀ a, a < 0 → ∀ b, b < 0 → a ≠ b → (TJxa66e6 a).2.1 ≠ (TJxa66e6 b).2.1 := by decide +kernel
theorem tyJxa66e6_ok : ∀ k, k < 0 → parseFieldDescriptor (TJxa66e6 k).2.2.1 = some (tyJxa66e6 k) := by decide +kernel
def RJ8 : String := "jdk/internal/util/ArraysSupport"
def TJ8 : u_T := fun k => match k with
  | _ => ("", "", "", false)
def tyJ8 : Nat → FieldType := fun k => match k with
  | _ => .int
abbrev wsJ80 : List Cond := u_ws RJ8 TJ8 0
theorem nmJ8 : ∀ a, a < 0 → ∀ b, b < 0 → a ≠ b → (TJ8 a).2.1 ≠ (TJ8 b).2.1 := by decide +kernel
theorem tyJ8_ok : ∀ k, k < 0 → parseFieldDescriptor (TJ8 k).2.2.1 = some (tyJ8 k) := by decide +kernel
abbrev cJ8_newLength_cabcc : ByteArray := prog_54_method_27_code
def yJ8_newLength_cabcc : MethodName := ⟨RJ8, "newLength", "(III)I"⟩
abbrev cJ8_hugeLength_7cf53 : ByteArray := prog_54_method_28_code
def yJ8_hugeLength_7cf53 : MethodName := ⟨RJ8, "hugeLength", "(II)I"⟩
def RJ3 : String := "jdk/internal/util/Preconditions"
def TJ3 : u_T := fun k => match k with
  | _ => ("", "", "", false)
def tyJ3 : Nat → FieldType := fun k => match k with
  | _ => .int
abbrev wsJ30 : List Cond := u_ws RJ3 TJ3 0
theorem nmJ3 : ∀ a, a < 0 → ∀ b, b < 0 → a ≠ b → (TJ3 a).2.1 ≠ (TJ3 b).2.1 := by decide +kernel
theorem tyJ3_ok : ∀ k, k < 0 → parseFieldDescriptor (TJ3 k).2.2.1 = some (tyJ3 k) := by decide +kernel
abbrev cJ3_checkIndex_8e157 : ByteArray := prog_55_method_11_code
def yJ3_checkIndex_8e157 : MethodName := ⟨RJ3, "checkIndex", "(IILjava/util/function/BiFunction;)I"⟩
abbrev cJ3_checkFromToIndex_8c36e : ByteArray := prog_55_method_12_code
def yJ3_checkFromToIndex_8c36e : MethodName := ⟨RJ3, "checkFromToIndex", "(IIILjava/util/function/BiFunction;)I"⟩
def RL : String := "HundredwardLaw"
abbrev cL_setHeight : ByteArray := method_3_code
def yL_setHeight : MethodName := ⟨RL, "setHeight", "(LHundredward;II[J)I"⟩
abbrev cL_setRiver : ByteArray := method_4_code
def yL_setRiver : MethodName := ⟨RL, "setRiver", "(LHundredward;I[J)I"⟩
abbrev cL_build : ByteArray := method_5_code
def yL_build : MethodName := ⟨RL, "build", "(LHundredward;IC[J)I"⟩
abbrev cL_takeDown : ByteArray := method_6_code
def yL_takeDown : MethodName := ⟨RL, "takeDown", "(LHundredward;I[J)I"⟩
abbrev cL_setTolerance : ByteArray := method_7_code
def yL_setTolerance : MethodName := ⟨RL, "setTolerance", "(LHundredward;I[J)I"⟩
abbrev cL_vote : ByteArray := method_8_code
def yL_vote : MethodName := ⟨RL, "vote", "(LHundredward;CI[J)I"⟩
abbrev cL_law : ByteArray := method_9_code
def yL_law : MethodName := ⟨RL, "law", "(LHundredward;C[J)I"⟩
abbrev cL_builtOn : ByteArray := method_10_code
def yL_builtOn : MethodName := ⟨RL, "builtOn", "(LHundredward;I[J)I"⟩
abbrev cL_nameOf : ByteArray := method_11_code
def yL_nameOf : MethodName := ⟨RL, "nameOf", "(LHundredward;I[J)I"⟩
abbrev cL_rentOf : ByteArray := method_12_code
def yL_rentOf : MethodName := ⟨RL, "rentOf", "(LHundredward;I[J)I"⟩
abbrev cL_load : ByteArray := method_13_code
def yL_load : MethodName := ⟨RL, "load", "(LHundredward;I[J)I"⟩
abbrev cL_hadWater : ByteArray := method_14_code
def yL_hadWater : MethodName := ⟨RL, "hadWater", "(LHundredward;I[J)I"⟩
abbrev cL_way : ByteArray := method_15_code
def yL_way : MethodName := ⟨RL, "way", "(LHundredward;II[J)I"⟩
abbrev cL_arrive : ByteArray := method_16_code
def yL_arrive : MethodName := ⟨RL, "arrive", "(LHundredward;II[J)I"⟩
abbrev cL_leave : ByteArray := method_17_code
def yL_leave : MethodName := ⟨RL, "leave", "(LHundredward;I[J)I"⟩
abbrev cL_found : ByteArray := method_18_code
def yL_found : MethodName := ⟨RL, "found", "(LHundredward;III[J)I"⟩
abbrev cL_setPay : ByteArray := method_19_code
def yL_setPay : MethodName := ⟨RL, "setPay", "(LHundredward;III[J)I"⟩
abbrev cL_homeOf : ByteArray := method_20_code
def yL_homeOf : MethodName := ⟨RL, "homeOf", "(LHundredward;I[J)I"⟩
abbrev cL_firmOf : ByteArray := method_21_code
def yL_firmOf : MethodName := ⟨RL, "firmOf", "(LHundredward;I[J)I"⟩
abbrev cL_hungerOf : ByteArray := method_22_code
def yL_hungerOf : MethodName := ⟨RL, "hungerOf", "(LHundredward;I[J)I"⟩
abbrev cL_costOf : ByteArray := method_23_code
def yL_costOf : MethodName := ⟨RL, "costOf", "(LHundredward;I[J)I"⟩
abbrev cL_stockOf : ByteArray := method_24_code
def yL_stockOf : MethodName := ⟨RL, "stockOf", "(LHundredward;I[J)I"⟩
abbrev cL_creditOf : ByteArray := method_25_code
def yL_creditOf : MethodName := ⟨RL, "creditOf", "(LHundredward;I[J)I"⟩
abbrev cL_workersOf : ByteArray := method_26_code
def yL_workersOf : MethodName := ⟨RL, "workersOf", "(LHundredward;I[J)I"⟩
abbrev cL_borrow : ByteArray := method_27_code
def yL_borrow : MethodName := ⟨RL, "borrow", "(LHundredward;I[J)I"⟩
abbrev cL_pass : ByteArray := method_28_code
def yL_pass : MethodName := ⟨RL, "pass", "(LHundredward;I[J)I"⟩
abbrev cL_balance : ByteArray := method_29_code
def yL_balance : MethodName := ⟨RL, "balance", "(LHundredward;I[J)I"⟩
abbrev cL_balanceAnew : ByteArray := method_30_code
def yL_balanceAnew : MethodName := ⟨RL, "balanceAnew", "(LHundredward;I[J)I"⟩
abbrev cL_entry : ByteArray := method_31_code
def yL_entry : MethodName := ⟨RL, "entry", "(LHundredward;II[J)I"⟩
abbrev cL_workingShare : ByteArray := method_32_code
def yL_workingShare : MethodName := ⟨RL, "workingShare", "(LHundredward;[D)I"⟩
abbrev cL_meanRent : ByteArray := method_33_code
def yL_meanRent : MethodName := ⟨RL, "meanRent", "(LHundredward;[D)I"⟩
abbrev cL_law_ : ByteArray := code
def yL_law_ : MethodName := ⟨RL, "law", "([I)Z"⟩
abbrev vwCl : List vw_C := [(RJ0, TJ0, 2), (RJ6, TJ6, 1), (RJx00060, TJx00060, 6), (RJx35411, TJx35411, 4), (RJx4a65c, TJx4a65c, 3), (RX0, TX0, 4), (RX2, TX2, 10), (RX3, TX3, 11), (RX4, TX4, 3), (RX5, TX5, 3), (RX6, TX6, 2), (RX7, TX7, 14), (RX9, TX9, 14), (RX11, TX11, 1), (RX12, TX12, 3), (RX13, TX13, 8), (RX14, TX14, 8), (RX15, TX15, 19)]
end
section
/-! THE SMALL MACHINE. Its memory is one number, 48 bits a word; the lowest word counts the writings, so that no two memories are alike. -/
noncomputable def mz_f {α : Type} (n : Nat) (k : Nat → α) : α := Nat.rec (motive := fun _ => α) (k 0) (fun m _ => k (Nat.succ m)) n
theorem mz_f_eq {α : Type} (n : Nat) (k : Nat → α) : mz_f n k = k n := by cases n <;> rfl
def mz_B : Nat := 281474976710656
theorem mz_B2 : mz_B = 2 ^ 48 := by decide
/-- the word i -/
def mz_g (M i : Nat) : Nat := Nat.mod (Nat.shiftRight M (Nat.mul 48 (Nat.succ i))) 281474976710656
/-- the word i written -/
def mz_p (M i v : Nat) : Nat :=
  Nat.add (Nat.shiftLeft (Nat.add (Nat.sub (Nat.shiftRight M 48) (Nat.shiftLeft (mz_g M i) (Nat.mul 48 i))) (Nat.shiftLeft v (Nat.mul 48 i))) 48) (Nat.mod (Nat.succ M) 281474976710656)
def mz_d (H i : Nat) : Nat := H / mz_B ^ i % mz_B
theorem mz_Bp : 0 < mz_B := by decide
theorem mz_g_eq (M i : Nat) : mz_g M i = mz_d (M / mz_B) i := by
  show (M >>> (48 * (i + 1))) % 281474976710656 = M / mz_B / mz_B ^ i % mz_B
  rw [Nat.shiftRight_eq_div_pow, Nat.div_div_eq_div_mul, Nat.pow_mul, ← mz_B2, Nat.pow_succ, Nat.mul_comm]
  rfl
theorem mz_d_lt (H i : Nat) : mz_d H i < mz_B := Nat.mod_lt _ mz_Bp
theorem mz_d_split (H i : Nat) : ∃ a r : Nat, r < mz_B ^ i ∧ H = r + mz_B ^ i * (mz_d H i + mz_B * a) := by
  refine ⟨H / mz_B ^ i / mz_B, H % mz_B ^ i, Nat.mod_lt _ (Nat.pow_pos mz_Bp), ?_⟩
  unfold mz_d
  rw [Nat.mod_add_div, Nat.mod_add_div]
theorem mz_d_at {r a d i : Nat} (hr : r < mz_B ^ i) (hd : d < mz_B) : mz_d (r + mz_B ^ i * (d + mz_B * a)) i = d := by
  unfold mz_d
  rw [Nat.add_mul_div_left _ _ (Nat.pow_pos mz_Bp), Nat.div_eq_of_lt hr, Nat.zero_add, Nat.add_mul_mod_self_left, Nat.mod_eq_of_lt hd]
theorem mz_d_lo {r x y i j : Nat} (h : j < i) : mz_d (r + mz_B ^ i * x) j = mz_d (r + mz_B ^ i * y) j := by
  obtain ⟨k, rfl⟩ : ∃ k, i = j + 1 + k := ⟨i - (j + 1), by omega⟩
  have e : ∀ z : Nat, mz_B ^ (j + 1 + k) * z = mz_B ^ j * (mz_B * (mz_B ^ k * z)) := fun z => by
    rw [Nat.pow_add, Nat.pow_succ, Nat.mul_assoc, Nat.mul_assoc]
  unfold mz_d
  rw [e x, e y, Nat.add_mul_div_left _ _ (Nat.pow_pos mz_Bp), Nat.add_mul_div_left _ _ (Nat.pow_pos mz_Bp), Nat.add_mul_mod_self_left, Nat.add_mul_mod_self_left]
theorem mz_d_hi {r a d i j : Nat} (h : i < j) (hr : r < mz_B ^ i) (hd : d < mz_B) : mz_d (r + mz_B ^ i * (d + mz_B * a)) j = mz_d a (j - (i + 1)) := by
  obtain ⟨k, rfl⟩ : ∃ k, j = i + 1 + k := ⟨j - (i + 1), by omega⟩
  unfold mz_d
  rw [Nat.pow_add, Nat.pow_succ, ← Nat.div_div_eq_div_mul, ← Nat.div_div_eq_div_mul, Nat.add_mul_div_left _ _ (Nat.pow_pos mz_Bp), Nat.div_eq_of_lt hr, Nat.zero_add, Nat.add_mul_div_left _ _ mz_Bp, Nat.div_eq_of_lt hd, Nat.zero_add]
  rw [show i + 1 + k - (i + 1) = k by omega]
theorem mz_d_put {H i j v : Nat} (hv : v < mz_B) : mz_d (H - mz_d H i * mz_B ^ i + v * mz_B ^ i) j = if j = i then v else mz_d H j := by
  obtain ⟨a, r, hr, e⟩ := mz_d_split H i
  have e2 : H - mz_d H i * mz_B ^ i + v * mz_B ^ i = r + mz_B ^ i * (v + mz_B * a) := by
    have h1 : mz_B ^ i * (mz_d H i + mz_B * a) = mz_d H i * mz_B ^ i + mz_B ^ i * (mz_B * a) := by rw [Nat.mul_add, Nat.mul_comm (mz_B ^ i) (mz_d H i)]
    have h2 : mz_B ^ i * (v + mz_B * a) = v * mz_B ^ i + mz_B ^ i * (mz_B * a) := by rw [Nat.mul_add, Nat.mul_comm (mz_B ^ i) v]
    generalize mz_d H i * mz_B ^ i = P at *
    generalize v * mz_B ^ i = P2 at *
    generalize mz_B ^ i * (mz_B * a) = P3 at *
    omega
  rw [e2]
  by_cases hj : j = i
  · subst hj
    rw [if_pos rfl, mz_d_at hr hv]
  · rw [if_neg hj]
    rcases Nat.lt_or_gt_of_ne hj with q | q
    · rw [mz_d_lo (y := mz_d H i + mz_B * a) q, ← e]
    · rw [mz_d_hi q hr hv]
      have h3 := mz_d_hi (a := a) q hr (mz_d_lt H i)
      rw [← e] at h3
      exact h3.symm
theorem mz_gp {M i j v : Nat} (hv : v < mz_B) : mz_g (mz_p M i v) j = if j = i then v else mz_g M j := by
  have e : mz_p M i v / mz_B = M / mz_B - mz_d (M / mz_B) i * mz_B ^ i + v * mz_B ^ i := by
    show ((((M >>> 48) - ((mz_g M i) <<< (48 * i))) + (v <<< (48 * i))) <<< 48 + (M + 1) % mz_B) / mz_B = _
    rw [Nat.shiftRight_eq_div_pow, Nat.shiftLeft_eq, Nat.shiftLeft_eq, Nat.shiftLeft_eq, mz_g_eq, Nat.pow_mul, ← mz_B2, Nat.mul_comm _ mz_B, Nat.mul_add_div mz_Bp, Nat.div_eq_of_lt (Nat.mod_lt _ mz_Bp), Nat.add_zero]
  rw [mz_g_eq, e, mz_d_put hv, mz_g_eq]
theorem mz_g_lt (M i : Nat) : mz_g M i < mz_B := by rw [mz_g_eq]; exact mz_d_lt _ _
end
section
/-! WORDS AND WHAT THEY MEAN: the tag is the word mod 16: 1 an int by its number, 2 a reference (0 null, then the cells, from 2 ^ 20 on the old ones), 3 a long by an int's number, 4 a variable and a number, 5 the same as a long, 6 a variable or'd with a number, 7 a float zero, 8 a double zero, 9 a number less a variable -/
theorem mz_nI_bv (n : Nat) : (nI n).toBitVec.toNat = n % 4294967296 := by
  show (BitVec.ofNat 32 n).toNat = _
  rw [BitVec.toNat_ofNat]
theorem mz_bv_lt (x : Int32) : x.toBitVec.toNat < 4294967296 := x.toBitVec.isLt
theorem mz_ext {x y : Int32} (h : x.toBitVec.toNat = y.toBitVec.toNat) : x = y := by
  have h1 : x.toBitVec = y.toBitVec := BitVec.eq_of_toNat_eq h
  exact Int32.toBitVec_inj.mp h1
theorem mz_nI_mod (n : Nat) : nI (n % 4294967296) = nI n := mz_ext (by rw [mz_nI_bv, mz_nI_bv, Nat.mod_mod])
theorem mz_nI_cong {a b : Nat} (h : a % 4294967296 = b % 4294967296) : nI a = nI b := mz_ext (by rw [mz_nI_bv, mz_nI_bv, h])
theorem mz_add_bv (x y : Int32) : (x + y).toBitVec.toNat = (x.toBitVec.toNat + y.toBitVec.toNat) % 4294967296 := by
  rw [Int32.toBitVec_add, BitVec.toNat_add]
theorem mz_sub_bv (x y : Int32) : (x - y).toBitVec.toNat = (4294967296 - y.toBitVec.toNat + x.toBitVec.toNat) % 4294967296 := by
  rw [Int32.toBitVec_sub, BitVec.toNat_sub]
theorem mz_int_bv (x : Int32) : x.toInt = if x.toBitVec.toNat < 2147483648 then (x.toBitVec.toNat : Int) else (x.toBitVec.toNat : Int) - 4294967296 := by
  show x.toBitVec.toInt = _
  rw [BitVec.toInt_eq_toNat_cond]
  have h := mz_bv_lt x
  by_cases q : x.toBitVec.toNat < 2147483648
  · rw [if_pos q, if_pos (by omega)]
  · rw [if_neg q, if_neg (by omega)]; rfl
/-- a number as it is compared: 0 the least int -/
def mz_b (x : Int32) : Nat := (x.toBitVec.toNat + 2147483648) % 4294967296
theorem mz_b_int (x : Int32) : (mz_b x : Int) = x.toInt + 2147483648 := by
  have h := mz_bv_lt x
  rw [mz_int_bv]
  unfold mz_b
  by_cases q : x.toBitVec.toNat < 2147483648
  · rw [if_pos q, Nat.mod_eq_of_lt (by omega)]; omega
  · rw [if_neg q, show (x.toBitVec.toNat + 2147483648) % 4294967296 = x.toBitVec.toNat - 2147483648 by omega]; omega
theorem mz_b_lt {x y : Int32} : x < y ↔ mz_b x < mz_b y := by
  rw [Int32.lt_iff_toInt_lt]
  have h1 := mz_b_int x
  have h2 := mz_b_int y
  omega
theorem mz_b_le {x y : Int32} : x ≤ y ↔ mz_b x ≤ mz_b y := by
  rw [Int32.le_iff_toInt_le]
  have h1 := mz_b_int x
  have h2 := mz_b_int y
  omega
theorem mz_b_eq {x y : Int32} : x = y ↔ mz_b x = mz_b y := by
  constructor
  · intro h; rw [h]
  · intro h
    have h1 := mz_bv_lt x
    have h2 := mz_bv_lt y
    unfold mz_b at h
    exact mz_ext (by omega)
theorem mz_b_nI (a : Nat) : mz_b (nI a) = (a + 2147483648) % 4294967296 := by
  unfold mz_b; rw [mz_nI_bv]; omega
theorem mz_b_add (x : Int32) (o : Nat) : mz_b (x + nI o) = (mz_b x + o) % 4294967296 := by
  have h1 := mz_bv_lt x
  unfold mz_b; rw [mz_add_bv, mz_nI_bv]; omega
theorem mz_b_un (x : Int32) : x = nI ((mz_b x + 2147483648) % 4294967296) := by
  have h1 := mz_bv_lt x
  refine mz_ext ?_
  rw [mz_nI_bv]
  unfold mz_b
  omega
theorem mz_b_max (x : Int32) : mz_b x < 4294967296 := Nat.mod_lt _ (by decide)
/-! numbers of ints -/
theorem mz_add (a b : Nat) : nI a + nI b = nI ((a + b) % 4294967296) := by rw [mz_nI_mod, nI_add]
theorem mz_addx (x : Int32) (a b : Nat) : x + nI a + nI b = x + nI ((a + b) % 4294967296) := by
  rw [← mz_add]
  exact mz_ext (by rw [mz_add_bv, mz_add_bv, mz_add_bv, mz_add_bv]; omega)
theorem mz_xadd (x : Int32) (a b : Nat) : nI b + (x + nI a) = x + nI ((a + b) % 4294967296) := by
  rw [← mz_addx]
  exact mz_ext (by rw [mz_add_bv, mz_add_bv, mz_add_bv, mz_add_bv]; omega)
theorem mz_ng (a : Nat) : nI (4294967296 - a % 4294967296) = 0 - nI a := by
  refine mz_ext ?_
  rw [mz_nI_bv, mz_sub_bv, mz_nI_bv]
  show _ = (4294967296 - a % 4294967296 + 0) % 4294967296
  omega
theorem mz_sub (a b : Nat) : nI a - nI b = nI ((a + (4294967296 - b % 4294967296)) % 4294967296) := by
  refine mz_ext ?_
  rw [mz_nI_bv, mz_sub_bv, mz_nI_bv, mz_nI_bv]
  omega
theorem mz_subx (x : Int32) (a b : Nat) : x + nI a - nI b = x + nI ((a + (4294967296 - b % 4294967296)) % 4294967296) := by
  refine mz_ext ?_
  rw [mz_sub_bv, mz_add_bv, mz_add_bv, mz_nI_bv, mz_nI_bv, mz_nI_bv]
  omega
theorem mz_neg (a : Nat) : -nI a = nI ((4294967296 - a % 4294967296) % 4294967296) := by
  rw [mz_nI_mod, mz_ng]
  simp
theorem mz_negx (x : Int32) (a : Nat) : -(x + nI a) = nI ((4294967296 - a % 4294967296) % 4294967296) - x := by
  rw [mz_nI_mod, mz_ng]
  have e : -(x + nI a) = 0 - (x + nI a) := by simp
  rw [e]
  refine mz_ext ?_
  rw [mz_sub_bv, mz_sub_bv, mz_sub_bv, mz_add_bv]
  have h1 := mz_bv_lt x
  have h2 := mz_bv_lt (nI a)
  show (4294967296 - _ + 0) % 4294967296 = (4294967296 - _ + (4294967296 - _ + 0) % 4294967296) % 4294967296
  omega
theorem mz_addm (x : Int32) (a b : Nat) : nI b + (nI a - x) = nI ((a + b) % 4294967296) - x := by
  refine mz_ext ?_
  have h1 := mz_bv_lt x
  rw [mz_add_bv, mz_sub_bv, mz_sub_bv, mz_nI_bv, mz_nI_bv, mz_nI_bv]
  omega
theorem mz_maddm (x : Int32) (a b : Nat) : nI a - x + nI b = nI ((a + b) % 4294967296) - x := by
  refine mz_ext ?_
  have h1 := mz_bv_lt x
  rw [mz_add_bv, mz_sub_bv, mz_sub_bv, mz_nI_bv, mz_nI_bv, mz_nI_bv]
  omega
theorem mz_mul (a b : Nat) : nI a * nI b = nI ((a * b) % 4294967296) := by rw [mz_nI_mod, pk_mul]
theorem mz_and (a b : Nat) : nI a &&& nI b = nI (a &&& b) := by
  refine mz_ext ?_
  rw [Int32.toBitVec_and, BitVec.toNat_and, mz_nI_bv, mz_nI_bv, mz_nI_bv]
  exact (Nat.and_mod_two_pow (n := 32)).symm
theorem mz_or (a b : Nat) : nI a ||| nI b = nI (a ||| b) := by
  refine mz_ext ?_
  rw [Int32.toBitVec_or, BitVec.toNat_or, mz_nI_bv, mz_nI_bv, mz_nI_bv]
  exact (Nat.or_mod_two_pow (n := 32)).symm
theorem mz_smod : ∀ k : Fin 32, ((nI k.val).toBitVec.smod 32).toNat = k.val := by decide +kernel
theorem mz_umod : ∀ k : Fin 32, (((nI k.val).toUInt32 &&& Int32.toUInt32 31).toBitVec % 32).toNat = k.val := by decide +kernel
theorem mz_shl {a k : Nat} (hk : k < 32) (h : a * 2 ^ k < 4294967296) : nI a <<< nI k = nI (a * 2 ^ k) := pk_shlN _ k (mz_smod ⟨k, hk⟩) h
theorem mz_shr {a k : Nat} (hk : k < 32) (h : a < 2147483648) : nI a >>> nI k = nI (a / 2 ^ k) := pk_shrN h _ k (mz_smod ⟨k, hk⟩)
theorem mz_ushr {a k : Nat} (hk : k < 32) (h : a < 4294967296) : ((nI a).toUInt32 >>> ((nI k).toUInt32 &&& Int32.toUInt32 31)).toInt32 = nI (a / 2 ^ k) := pk_ushrN h _ k (mz_umod ⟨k, hk⟩)
theorem mz_i2c (a : Nat) : ((nI a).toUInt32 % 65536).toInt32 = nI (a % 65536) := by
  rw [pk_char, mz_nI_bv]
  congr 1
  omega
theorem fb_byte {x : Int32} (h1 : -128 ≤ x.toInt) (h2 : x.toInt < 128) : x.toInt8.toInt32 = x := by
  apply Int32.toInt_inj.1
  rw [Int8.toInt_toInt32, Int32.toInt_toInt8, Int.bmod_eq_of_le (by omega) (by omega)]
theorem mz_i2b {x : Int32} (h1 : 2147483648 ≤ mz_b x) (h2 : mz_b x < 2147483776) : x.toInt8.toInt32 = x := by
  have h := mz_b_int x
  exact fb_byte (by omega) (by omega)
theorem mz_i2bh {x : Int32} (h1 : 2147483776 ≤ mz_b x) (h2 : mz_b x < 2147483904) : x.toInt8.toInt32 = x + nI 4294967040 := by
  have h := mz_b_int x
  have e : (x + nI 4294967040).toInt = x.toInt - 256 := by
    have h3 := mz_b_int (x + nI 4294967040)
    rw [mz_b_add] at h3
    omega
  refine Int32.toInt_inj.mp ?_
  rw [e, Int8.toInt_toInt32, Int32.toInt_toInt8, Int.bmod_def]
  omega
end
section
def mz_r (ad ao : Nat → Nat) (q : Nat) : Value := if q = 0 then .null else if q ≤ 1048576 then .ref (ad (q - 1)) else .ref (ao (q - 1048577))
/-- what a word means -/
def mz_c (ad ao : Nat → Nat) (ρ : Nat → Int32) (w : Nat) : Value :=
  if w % 16 = 1 then .int (nI (w / 16)) else if w % 16 = 2 then mz_r ad ao (w / 16) else if w % 16 = 3 then .long (nI (w / 16)).toInt64
  else if w % 16 = 4 then .int (ρ (w / 16 % 32) + nI (w / 512)) else if w % 16 = 5 then .long (ρ (w / 16 % 32) + nI (w / 512)).toInt64
  else if w % 16 = 6 then .int (ρ (w / 16 % 32) ||| nI (w / 512)) else if w % 16 = 7 then .float 0 else if w % 16 = 8 then .double 0
  else if w % 16 = 9 then .int (nI (w / 512) - ρ (w / 16 % 32)) else .null
/-- an int's word -/
def mz_i (ρ : Nat → Int32) (w : Nat) : Int32 :=
  if w % 16 = 1 then nI (w / 16) else if w % 16 = 4 then ρ (w / 16 % 32) + nI (w / 512) else if w % 16 = 6 then ρ (w / 16 % 32) ||| nI (w / 512) else nI (w / 512) - ρ (w / 16 % 32)
def mz_I (w : Nat) : Bool := bif Nat.beq (Nat.mod w 16) 1 then true else bif Nat.beq (Nat.mod w 16) 4 then true else bif Nat.beq (Nat.mod w 16) 6 then true else Nat.beq (Nat.mod w 16) 9
/-- a long's word -/
def mz_l (ρ : Nat → Int32) (w : Nat) : Int64 := if w % 16 = 3 then (nI (w / 16)).toInt64 else (ρ (w / 16 % 32) + nI (w / 512)).toInt64
def mz_L (w : Nat) : Bool := bif Nat.beq (Nat.mod w 16) 3 then true else Nat.beq (Nat.mod w 16) 5
def mz_R (w : Nat) : Bool := Nat.beq (Nat.mod w 16) 2
theorem mz_bq {a b : Nat} (h : Nat.beq a b = true) : a = b := Nat.eq_of_beq_eq_true h
theorem mz_bn {a b : Nat} (h : Nat.beq a b = false) : a ≠ b := Nat.ne_of_beq_eq_false h
theorem mz_bl {a b : Nat} (h : Nat.ble a b = true) : a ≤ b := Nat.le_of_ble_eq_true h
theorem mz_bg {a b : Nat} (h : Nat.ble a b = false) : b < a := by
  rcases Nat.lt_or_ge b a with q | q
  · exact q
  · rw [Nat.ble_eq_true_of_le q] at h; cases h
theorem mz_if {α : Type} {c : Bool} {a b : Option α} {r : α} (h : (bif c then a else b) = some r) : (c = true ∧ a = some r) ∨ (c = false ∧ b = some r) := by
  cases c
  · exact Or.inr ⟨rfl, h⟩
  · exact Or.inl ⟨rfl, h⟩
theorem mz_ift {α : Type} {c : Bool} {a : Option α} {r : α} (h : (bif c then a else none) = some r) : c = true ∧ a = some r := by
  cases c
  · cases h
  · exact ⟨rfl, h⟩
theorem mz_I_or {w : Nat} (h : mz_I w = true) : w % 16 = 1 ∨ w % 16 = 4 ∨ w % 16 = 6 ∨ w % 16 = 9 := by
  unfold mz_I at h
  cases h1 : Nat.beq (Nat.mod w 16) 1 with
  | true => exact Or.inl (mz_bq h1)
  | false =>
    cases h2 : Nat.beq (Nat.mod w 16) 4 with
    | true => exact Or.inr (Or.inl (mz_bq h2))
    | false =>
      cases h3 : Nat.beq (Nat.mod w 16) 6 with
      | true => exact Or.inr (Or.inr (Or.inl (mz_bq h3)))
      | false =>
        rw [h1, h2, h3] at h
        exact Or.inr (Or.inr (Or.inr (mz_bq h)))
theorem mz_I_of {w : Nat} (h : w % 16 = 1 ∨ w % 16 = 4 ∨ w % 16 = 6 ∨ w % 16 = 9) : mz_I w = true := by
  unfold mz_I
  show (bif Nat.beq (w % 16) 1 then true else bif Nat.beq (w % 16) 4 then true else bif Nat.beq (w % 16) 6 then true else Nat.beq (w % 16) 9) = true
  rcases h with h | h | h | h <;> rw [h] <;> rfl
section MZS
variable {ad ao : Nat → Nat} {ρ : Nat → Int32}
theorem mz_cI {w : Nat} (h : mz_I w = true) : mz_c ad ao ρ w = .int (mz_i ρ w) := by
  rcases mz_I_or h with h | h | h | h <;> simp [mz_c, mz_i, h]
theorem mz_L_or {w : Nat} (h : mz_L w = true) : w % 16 = 3 ∨ w % 16 = 5 := by
  unfold mz_L at h
  cases h1 : Nat.beq (Nat.mod w 16) 3 with
  | true => exact Or.inl (mz_bq h1)
  | false => rw [h1] at h; exact Or.inr (mz_bq h)
theorem mz_cL {w : Nat} (h : mz_L w = true) : mz_c ad ao ρ w = .long (mz_l ρ w) := by
  rcases mz_L_or h with h | h <;> simp [mz_c, mz_l, h]
theorem mz_cR {w : Nat} (h : mz_R w = true) : mz_c ad ao ρ w = mz_r ad ao (w / 16) := by
  have h1 : w % 16 = 2 := mz_bq h
  simp [mz_c, h1]
theorem mz_tag (t q : Nat) (h : t < 16) : (t + 16 * q) % 16 = t ∧ (t + 16 * q) / 16 = q := by omega
theorem mz_i1 (a : Nat) : mz_I (1 + 16 * a) = true ∧ mz_i ρ (1 + 16 * a) = nI a := by
  obtain ⟨h1, h2⟩ := mz_tag 1 a (by decide)
  exact ⟨mz_I_of (Or.inl h1), by unfold mz_i; rw [if_pos h1, h2]⟩
theorem mz_pay {i o : Nat} (h : i < 32) : (i + 32 * o) % 32 = i ∧ (i + 32 * o) / 32 = o := by omega
theorem mz_div512 (w : Nat) : w / 512 = w / 16 / 32 := by omega
theorem mz_i4 {i : Nat} (h : i < 32) (o : Nat) : mz_I (4 + 16 * (i + 32 * o)) = true ∧ mz_i ρ (4 + 16 * (i + 32 * o)) = ρ i + nI o := by
  obtain ⟨h1, h2⟩ := mz_tag 4 (i + 32 * o) (by decide)
  obtain ⟨h3, h4⟩ := mz_pay (o := o) h
  exact ⟨mz_I_of (Or.inr (Or.inl h1)), by unfold mz_i; rw [if_neg (by omega), if_pos h1, mz_div512, h2, h3, h4]⟩
theorem mz_i6 {i : Nat} (h : i < 32) (o : Nat) : mz_I (6 + 16 * (i + 32 * o)) = true ∧ mz_i ρ (6 + 16 * (i + 32 * o)) = (ρ i ||| nI o) := by
  obtain ⟨h1, h2⟩ := mz_tag 6 (i + 32 * o) (by decide)
  obtain ⟨h3, h4⟩ := mz_pay (o := o) h
  exact ⟨mz_I_of (Or.inr (Or.inr (Or.inl h1))), by unfold mz_i; rw [if_neg (by omega), if_neg (by omega), if_pos h1, mz_div512, h2, h3, h4]⟩
theorem mz_i9 {i : Nat} (h : i < 32) (o : Nat) : mz_I (9 + 16 * (i + 32 * o)) = true ∧ mz_i ρ (9 + 16 * (i + 32 * o)) = nI o - ρ i := by
  obtain ⟨h1, h2⟩ := mz_tag 9 (i + 32 * o) (by decide)
  obtain ⟨h3, h4⟩ := mz_pay (o := o) h
  exact ⟨mz_I_of (Or.inr (Or.inr (Or.inr h1))), by unfold mz_i; rw [if_neg (by omega), if_neg (by omega), if_neg (by omega), mz_div512, h2, h3, h4]⟩
theorem mz_is1 {w : Nat} (h : Nat.beq (Nat.mod w 16) 1 = true) : mz_I w = true ∧ mz_i ρ w = nI (w / 16) := by
  have h1 : w % 16 = 1 := mz_bq h
  exact ⟨mz_I_of (Or.inl h1), by unfold mz_i; rw [if_pos h1]⟩
theorem mz_is4 {w : Nat} (h : Nat.beq (Nat.mod w 16) 4 = true) : mz_I w = true ∧ mz_i ρ w = ρ (w / 16 % 32) + nI (w / 512) := by
  have h1 : w % 16 = 4 := mz_bq h
  exact ⟨mz_I_of (Or.inr (Or.inl h1)), by unfold mz_i; rw [if_neg (by omega), if_pos h1]⟩
theorem mz_is9 {w : Nat} (h : Nat.beq (Nat.mod w 16) 9 = true) : mz_I w = true ∧ mz_i ρ w = nI (w / 512) - ρ (w / 16 % 32) := by
  have h1 : w % 16 = 9 := mz_bq h
  exact ⟨mz_I_of (Or.inr (Or.inr (Or.inr h1))), by unfold mz_i; rw [if_neg (by omega), if_neg (by omega), if_neg (by omega)]⟩
/-- the variables' bounds, as they are compared -/
def mz_F (F : Nat → Nat × Nat) (ρ : Nat → Int32) : Prop := ∀ i, (F i).1 ≤ mz_b (ρ i) ∧ mz_b (ρ i) ≤ (F i).2
/-- the variables: 0 to 3 the script's ints, 4 to 7 the same as chars, 8 to 11 their six lowest bits -/
def mz_V (ρ : Nat → Int32) : Prop := ∀ i, i < 4 → ρ (i + 4) = ((ρ i).toUInt32 % 65536).toInt32 ∧ ρ (i + 8) = (ρ i &&& nI 63)
noncomputable def mz_rg {α : Type} (F : Nat → Nat × Nat) (w : Nat) (k : Nat → Nat → Option α) : Option α :=
  bif Nat.beq (Nat.mod w 16) 1 then mz_f (Nat.mod (Nat.add (Nat.div w 16) 2147483648) 4294967296) (fun b => k b b)
  else bif Nat.beq (Nat.mod w 16) 4 then
    bif Nat.beq (Nat.div (Nat.add (F (Nat.mod (Nat.div w 16) 32)).1 (Nat.div w 512)) 4294967296) (Nat.div (Nat.add (F (Nat.mod (Nat.div w 16) 32)).2 (Nat.div w 512)) 4294967296) then
      mz_f (Nat.mod (Nat.add (F (Nat.mod (Nat.div w 16) 32)).1 (Nat.div w 512)) 4294967296) (fun a => mz_f (Nat.mod (Nat.add (F (Nat.mod (Nat.div w 16) 32)).2 (Nat.div w 512)) 4294967296) (fun b => k a b))
    else none
  else none
theorem mz_rg_ok {α : Type} {F : Nat → Nat × Nat} (hF : mz_F F ρ) {w : Nat} {k : Nat → Nat → Option α} {r : α} (h : mz_rg F w k = some r) :
    mz_I w = true ∧ ∃ a b, k a b = some r ∧ a ≤ mz_b (mz_i ρ w) ∧ mz_b (mz_i ρ w) ≤ b := by
  unfold mz_rg at h
  rcases mz_if h with ⟨h1, h⟩ | ⟨-, h⟩
  · obtain ⟨g1, g2⟩ := mz_is1 (ρ := ρ) h1
    rw [mz_f_eq] at h
    refine ⟨g1, _, _, h, ?_, ?_⟩ <;> rw [g2, mz_b_nI] <;> exact Nat.le_refl _
  · obtain ⟨h1, h⟩ := mz_ift h
    obtain ⟨h2, h⟩ := mz_ift h
    obtain ⟨g1, g2⟩ := mz_is4 (ρ := ρ) h1
    have h3 : ((F (w / 16 % 32)).1 + w / 512) / 4294967296 = ((F (w / 16 % 32)).2 + w / 512) / 4294967296 := mz_bq h2
    rw [mz_f_eq, mz_f_eq] at h
    obtain ⟨f1, f2⟩ := hF (w / 16 % 32)
    refine ⟨g1, _, _, h, ?_, ?_⟩
    · rw [g2, mz_b_add]
      show ((F (w / 16 % 32)).1 + w / 512) % 4294967296 ≤ _
      omega
    · rw [g2, mz_b_add]
      show _ ≤ ((F (w / 16 % 32)).2 + w / 512) % 4294967296
      omega
noncomputable def mz_lt {α : Type} (F : Nat → Nat × Nat) (x y : Nat) (k : Bool → Option α) : Option α :=
  mz_rg F x fun xa xb => mz_rg F y fun ya yb => bif Nat.ble (Nat.succ xb) ya then k true else bif Nat.ble yb xa then k false else none
theorem mz_lt_ok {α : Type} {F : Nat → Nat × Nat} (hF : mz_F F ρ) {x y : Nat} {k : Bool → Option α} {r : α} (h : mz_lt F x y k = some r) :
    mz_I x = true ∧ mz_I y = true ∧ ∃ b, k b = some r ∧ (b = true ↔ mz_i ρ x < mz_i ρ y) := by
  obtain ⟨g1, xa, xb, h, a1, a2⟩ := mz_rg_ok hF h
  obtain ⟨g2, ya, yb, h, b1, b2⟩ := mz_rg_ok hF h
  refine ⟨g1, g2, ?_⟩
  rcases mz_if h with ⟨h1, h⟩ | ⟨-, h⟩
  · have q : xb + 1 ≤ ya := mz_bl h1
    exact ⟨true, h, ⟨fun _ => mz_b_lt.mpr (by omega), fun _ => rfl⟩⟩
  · obtain ⟨h1, h⟩ := mz_ift h
    have q : yb ≤ xa := mz_bl h1
    exact ⟨false, h, ⟨fun z => (by cases z), fun z => absurd (mz_b_lt.mp z) (by omega)⟩⟩
noncomputable def mz_eq {α : Type} (F : Nat → Nat × Nat) (x y : Nat) (k : Bool → Option α) : Option α :=
  mz_rg F x fun xa xb => mz_rg F y fun ya yb => bif Nat.beq x y then k true else bif Nat.ble (Nat.succ xb) ya then k false else bif Nat.ble (Nat.succ yb) xa then k false
    else bif Nat.beq xa xb then bif Nat.beq ya yb then bif Nat.beq xa ya then k true else none else none else none
theorem mz_eq_ok {α : Type} {F : Nat → Nat × Nat} (hF : mz_F F ρ) {x y : Nat} {k : Bool → Option α} {r : α} (h : mz_eq F x y k = some r) :
    mz_I x = true ∧ mz_I y = true ∧ ∃ b, k b = some r ∧ (b = true ↔ mz_i ρ x = mz_i ρ y) := by
  obtain ⟨g1, xa, xb, h, a1, a2⟩ := mz_rg_ok hF h
  obtain ⟨g2, ya, yb, h, b1, b2⟩ := mz_rg_ok hF h
  refine ⟨g1, g2, ?_⟩
  rcases mz_if h with ⟨h1, h⟩ | ⟨-, h⟩
  · exact ⟨true, h, ⟨fun _ => by rw [mz_bq h1], fun _ => rfl⟩⟩
  · rcases mz_if h with ⟨h1, h⟩ | ⟨-, h⟩
    · have q : xb + 1 ≤ ya := mz_bl h1
      exact ⟨false, h, ⟨fun z => (by cases z), fun z => absurd (mz_b_eq.mp z) (by omega)⟩⟩
    · rcases mz_if h with ⟨h1, h⟩ | ⟨-, h⟩
      · have q : yb + 1 ≤ xa := mz_bl h1
        exact ⟨false, h, ⟨fun z => (by cases z), fun z => absurd (mz_b_eq.mp z) (by omega)⟩⟩
      · obtain ⟨h1, h⟩ := mz_ift h
        obtain ⟨h2, h⟩ := mz_ift h
        obtain ⟨h3, h⟩ := mz_ift h
        have q1 := mz_bq h1
        have q2 := mz_bq h2
        have q3 := mz_bq h3
        exact ⟨true, h, ⟨fun _ => mz_b_eq.mpr (by omega), fun _ => rfl⟩⟩
end MZS
end
section
section MZO
variable {ad ao : Nat → Nat} {ρ : Nat → Int32} {α : Type}
/-- the word of a number -/
def mz_n (a : Nat) : Nat := Nat.add 1 (Nat.mul 16 a)
def mz_v (t i o : Nat) : Nat := Nat.add t (Nat.mul 16 (Nat.add i (Nat.mul 32 o)))
theorem mz_nw (a : Nat) : mz_I (mz_n a) = true ∧ mz_i ρ (mz_n a) = nI a := mz_i1 a
theorem mz_vw4 {i : Nat} (h : i < 32) (o : Nat) : mz_I (mz_v 4 i o) = true ∧ mz_i ρ (mz_v 4 i o) = ρ i + nI o := mz_i4 h o
theorem mz_vw6 {i : Nat} (h : i < 32) (o : Nat) : mz_I (mz_v 6 i o) = true ∧ mz_i ρ (mz_v 6 i o) = (ρ i ||| nI o) := mz_i6 h o
theorem mz_vw9 {i : Nat} (h : i < 32) (o : Nat) : mz_I (mz_v 9 i o) = true ∧ mz_i ρ (mz_v 9 i o) = nI o - ρ i := mz_i9 h o
/-- a variable's word; its number, where its bounds meet -/
noncomputable def mz_var (F : Nat → Nat × Nat) (i : Nat) (k : Nat → Option α) : Option α :=
  bif Nat.beq (F i).1 (F i).2 then mz_f (mz_n (Nat.mod (Nat.add (F i).1 2147483648) 4294967296)) k else mz_f (mz_v 4 i 0) k
theorem mz_var_ok {F : Nat → Nat × Nat} (hF : mz_F F ρ) {i : Nat} (hi : i < 32) {k : Nat → Option α} {r : α} (h : mz_var F i k = some r) : ∃ w, k w = some r ∧ mz_I w = true ∧ mz_i ρ w = ρ i := by
  obtain ⟨f1, f2⟩ := hF i
  rcases mz_if h with ⟨h1, h⟩ | ⟨-, h⟩
  · rw [mz_f_eq] at h
    obtain ⟨g1, g2⟩ := mz_nw (ρ := ρ) (Nat.mod (Nat.add (F i).1 2147483648) 4294967296)
    have q := mz_bq h1
    have e : mz_b (ρ i) = (F i).1 := by omega
    exact ⟨_, h, g1, by rw [g2, mz_b_un (ρ i), e]; rfl⟩
  · rw [mz_f_eq] at h
    obtain ⟨g1, g2⟩ := mz_vw4 (ρ := ρ) hi 0
    exact ⟨_, h, g1, by rw [g2]; exact mz_ext (by rw [mz_add_bv]; exact Nat.mod_eq_of_lt (mz_bv_lt _))⟩
def mz_t1 (w : Nat) : Bool := Nat.beq (Nat.mod w 16) 1
def mz_t4 (w : Nat) : Bool := Nat.beq (Nat.mod w 16) 4
def mz_t9 (w : Nat) : Bool := Nat.beq (Nat.mod w 16) 9
def mz_q (w : Nat) : Nat := Nat.div w 16
def mz_x (w : Nat) : Nat := Nat.mod (Nat.div w 16) 32
def mz_o (w : Nat) : Nat := Nat.div w 512
theorem mz_x_lt (w : Nat) : mz_x w < 32 := Nat.mod_lt _ (by decide)
theorem mz_s1 {w : Nat} (h : mz_t1 w = true) : mz_I w = true ∧ mz_i ρ w = nI (mz_q w) := mz_is1 h
theorem mz_s4 {w : Nat} (h : mz_t4 w = true) : mz_I w = true ∧ mz_i ρ w = ρ (mz_x w) + nI (mz_o w) := mz_is4 h
theorem mz_s9 {w : Nat} (h : mz_t9 w = true) : mz_I w = true ∧ mz_i ρ w = nI (mz_o w) - ρ (mz_x w) := mz_is9 h
noncomputable def mz_oadd (x y : Nat) (k : Nat → Option α) : Option α :=
  bif mz_t1 x then bif mz_t1 y then mz_f (mz_n (Nat.mod (Nat.add (mz_q x) (mz_q y)) 4294967296)) k
    else bif mz_t4 y then mz_f (mz_v 4 (mz_x y) (Nat.mod (Nat.add (mz_o y) (mz_q x)) 4294967296)) k
    else bif mz_t9 y then mz_f (mz_v 9 (mz_x y) (Nat.mod (Nat.add (mz_o y) (mz_q x)) 4294967296)) k else none
  else bif mz_t1 y then bif mz_t4 x then mz_f (mz_v 4 (mz_x x) (Nat.mod (Nat.add (mz_o x) (mz_q y)) 4294967296)) k
    else bif mz_t9 x then mz_f (mz_v 9 (mz_x x) (Nat.mod (Nat.add (mz_o x) (mz_q y)) 4294967296)) k else none
  else none
theorem mz_oadd_ok {x y : Nat} {k : Nat → Option α} {r : α} (h : mz_oadd x y k = some r) : mz_I x = true ∧ mz_I y = true ∧ ∃ w, k w = some r ∧ mz_I w = true ∧ mz_i ρ w = mz_i ρ x + mz_i ρ y := by
  rcases mz_if h with ⟨h1, h⟩ | ⟨-, h⟩
  · obtain ⟨a1, a2⟩ := mz_s1 (ρ := ρ) h1
    rcases mz_if h with ⟨h2, h⟩ | ⟨-, h⟩
    · obtain ⟨b1, b2⟩ := mz_s1 (ρ := ρ) h2
      rw [mz_f_eq] at h
      obtain ⟨g1, g2⟩ := mz_nw (ρ := ρ) (Nat.mod (Nat.add (mz_q x) (mz_q y)) 4294967296)
      exact ⟨a1, b1, _, h, g1, by rw [g2, a2, b2, mz_add]; rfl⟩
    · rcases mz_if h with ⟨h2, h⟩ | ⟨-, h⟩
      · obtain ⟨b1, b2⟩ := mz_s4 (ρ := ρ) h2
        rw [mz_f_eq] at h
        obtain ⟨g1, g2⟩ := mz_vw4 (ρ := ρ) (mz_x_lt y) (Nat.mod (Nat.add (mz_o y) (mz_q x)) 4294967296)
        exact ⟨a1, b1, _, h, g1, by rw [g2, a2, b2, mz_xadd]; rfl⟩
      · obtain ⟨h2, h⟩ := mz_ift h
        obtain ⟨b1, b2⟩ := mz_s9 (ρ := ρ) h2
        rw [mz_f_eq] at h
        obtain ⟨g1, g2⟩ := mz_vw9 (ρ := ρ) (mz_x_lt y) (Nat.mod (Nat.add (mz_o y) (mz_q x)) 4294967296)
        exact ⟨a1, b1, _, h, g1, by rw [g2, a2, b2, mz_addm]; rfl⟩
  · obtain ⟨h2, h⟩ := mz_ift h
    obtain ⟨b1, b2⟩ := mz_s1 (ρ := ρ) h2
    rcases mz_if h with ⟨h1, h⟩ | ⟨-, h⟩
    · obtain ⟨a1, a2⟩ := mz_s4 (ρ := ρ) h1
      rw [mz_f_eq] at h
      obtain ⟨g1, g2⟩ := mz_vw4 (ρ := ρ) (mz_x_lt x) (Nat.mod (Nat.add (mz_o x) (mz_q y)) 4294967296)
      exact ⟨a1, b1, _, h, g1, by rw [g2, a2, b2, mz_addx]; rfl⟩
    · obtain ⟨h1, h⟩ := mz_ift h
      obtain ⟨a1, a2⟩ := mz_s9 (ρ := ρ) h1
      rw [mz_f_eq] at h
      obtain ⟨g1, g2⟩ := mz_vw9 (ρ := ρ) (mz_x_lt x) (Nat.mod (Nat.add (mz_o x) (mz_q y)) 4294967296)
      exact ⟨a1, b1, _, h, g1, by rw [g2, a2, b2, mz_maddm]; rfl⟩
noncomputable def mz_osub (x y : Nat) (k : Nat → Option α) : Option α :=
  bif mz_t1 y then bif mz_t1 x then mz_f (mz_n (Nat.mod (Nat.add (mz_q x) (Nat.sub 4294967296 (Nat.mod (mz_q y) 4294967296))) 4294967296)) k
    else bif mz_t4 x then mz_f (mz_v 4 (mz_x x) (Nat.mod (Nat.add (mz_o x) (Nat.sub 4294967296 (Nat.mod (mz_q y) 4294967296))) 4294967296)) k else none
  else none
theorem mz_osub_ok {x y : Nat} {k : Nat → Option α} {r : α} (h : mz_osub x y k = some r) : mz_I x = true ∧ mz_I y = true ∧ ∃ w, k w = some r ∧ mz_I w = true ∧ mz_i ρ w = mz_i ρ x - mz_i ρ y := by
  obtain ⟨h2, h⟩ := mz_ift h
  obtain ⟨b1, b2⟩ := mz_s1 (ρ := ρ) h2
  rcases mz_if h with ⟨h1, h⟩ | ⟨-, h⟩
  · obtain ⟨a1, a2⟩ := mz_s1 (ρ := ρ) h1
    rw [mz_f_eq] at h
    obtain ⟨g1, g2⟩ := mz_nw (ρ := ρ) (Nat.mod (Nat.add (mz_q x) (Nat.sub 4294967296 (Nat.mod (mz_q y) 4294967296))) 4294967296)
    exact ⟨a1, b1, _, h, g1, by rw [g2, a2, b2, mz_sub]; rfl⟩
  · obtain ⟨h1, h⟩ := mz_ift h
    obtain ⟨a1, a2⟩ := mz_s4 (ρ := ρ) h1
    rw [mz_f_eq] at h
    obtain ⟨g1, g2⟩ := mz_vw4 (ρ := ρ) (mz_x_lt x) (Nat.mod (Nat.add (mz_o x) (Nat.sub 4294967296 (Nat.mod (mz_q y) 4294967296))) 4294967296)
    exact ⟨a1, b1, _, h, g1, by rw [g2, a2, b2, mz_subx]; rfl⟩
noncomputable def mz_omul (x y : Nat) (k : Nat → Option α) : Option α :=
  bif mz_t1 x then bif mz_t1 y then mz_f (mz_n (Nat.mod (Nat.mul (mz_q x) (mz_q y)) 4294967296)) k else none else none
theorem mz_omul_ok {x y : Nat} {k : Nat → Option α} {r : α} (h : mz_omul x y k = some r) : mz_I x = true ∧ mz_I y = true ∧ ∃ w, k w = some r ∧ mz_I w = true ∧ mz_i ρ w = mz_i ρ x * mz_i ρ y := by
  obtain ⟨h1, h⟩ := mz_ift h
  obtain ⟨h2, h⟩ := mz_ift h
  obtain ⟨a1, a2⟩ := mz_s1 (ρ := ρ) h1
  obtain ⟨b1, b2⟩ := mz_s1 (ρ := ρ) h2
  rw [mz_f_eq] at h
  obtain ⟨g1, g2⟩ := mz_nw (ρ := ρ) (Nat.mod (Nat.mul (mz_q x) (mz_q y)) 4294967296)
  exact ⟨a1, b1, _, h, g1, by rw [g2, a2, b2, mz_mul]; rfl⟩
/-- a small number that isn't negative -/
def mz_sm (w : Nat) : Bool := bif mz_t1 w then Nat.ble (Nat.succ (mz_q w)) 2147483648 else false
theorem mz_sm_ok {w : Nat} (h : mz_sm w = true) : mz_t1 w = true ∧ mz_q w < 2147483648 := by
  unfold mz_sm at h
  cases h1 : mz_t1 w with
  | true => rw [h1] at h; exact ⟨rfl, mz_bl h⟩
  | false => rw [h1] at h; cases h
noncomputable def mz_odiv (x y : Nat) (k : Nat → Option α) : Option α :=
  bif mz_sm x then bif mz_sm y then bif Nat.beq (mz_q y) 0 then none else mz_f (mz_n (Nat.div (mz_q x) (mz_q y))) k else none else none
theorem mz_odiv_ok {x y : Nat} {k : Nat → Option α} {r : α} (h : mz_odiv x y k = some r) : mz_I x = true ∧ mz_I y = true ∧ ¬ mz_i ρ y = 0 ∧ ∃ w, k w = some r ∧ mz_I w = true ∧ mz_i ρ w = mz_i ρ x / mz_i ρ y := by
  obtain ⟨h1, h⟩ := mz_ift h
  obtain ⟨h2, h⟩ := mz_ift h
  obtain ⟨h1, q1⟩ := mz_sm_ok h1
  obtain ⟨h2, q2⟩ := mz_sm_ok h2
  rcases mz_if h with ⟨-, h⟩ | ⟨h3, h⟩
  · cases h
  · have q3 := mz_bn h3
    obtain ⟨a1, a2⟩ := mz_s1 (ρ := ρ) h1
    obtain ⟨b1, b2⟩ := mz_s1 (ρ := ρ) h2
    rw [mz_f_eq] at h
    obtain ⟨g1, g2⟩ := mz_nw (ρ := ρ) (Nat.div (mz_q x) (mz_q y))
    exact ⟨a1, b1, by rw [b2]; exact nI_ne0 (by omega) q2, _, h, g1, by rw [g2, a2, b2, pk_div q1 (by omega) q2]; rfl⟩
noncomputable def mz_orem (x y : Nat) (k : Nat → Option α) : Option α :=
  bif mz_sm x then bif mz_sm y then bif Nat.beq (mz_q y) 0 then none else mz_f (mz_n (Nat.mod (mz_q x) (mz_q y))) k else none else none
theorem mz_orem_ok {x y : Nat} {k : Nat → Option α} {r : α} (h : mz_orem x y k = some r) : mz_I x = true ∧ mz_I y = true ∧ ¬ mz_i ρ y = 0 ∧ ∃ w, k w = some r ∧ mz_I w = true ∧ mz_i ρ w = mz_i ρ x - mz_i ρ x / mz_i ρ y * mz_i ρ y := by
  obtain ⟨h1, h⟩ := mz_ift h
  obtain ⟨h2, h⟩ := mz_ift h
  obtain ⟨h1, q1⟩ := mz_sm_ok h1
  obtain ⟨h2, q2⟩ := mz_sm_ok h2
  rcases mz_if h with ⟨-, h⟩ | ⟨h3, h⟩
  · cases h
  · have q3 := mz_bn h3
    obtain ⟨a1, a2⟩ := mz_s1 (ρ := ρ) h1
    obtain ⟨b1, b2⟩ := mz_s1 (ρ := ρ) h2
    rw [mz_f_eq] at h
    obtain ⟨g1, g2⟩ := mz_nw (ρ := ρ) (Nat.mod (mz_q x) (mz_q y))
    exact ⟨a1, b1, by rw [b2]; exact nI_ne0 (by omega) q2, _, h, g1, by rw [g2, a2, b2, pk_rem q1 (by omega) q2]; rfl⟩
noncomputable def mz_oand (F : Nat → Nat × Nat) (x y : Nat) (k : Nat → Option α) : Option α :=
  bif mz_t1 y then bif mz_t1 x then mz_f (mz_n (Nat.land (mz_q x) (mz_q y))) k
    else bif mz_t4 x then bif Nat.beq (mz_o x) 0 then bif Nat.ble (Nat.succ (mz_x x)) 4 then bif Nat.beq (mz_q y) 63 then mz_var F (Nat.add (mz_x x) 8) k else none else none else none else none
  else none
theorem mz_oand_ok {F : Nat → Nat × Nat} (hF : mz_F F ρ) (hV : mz_V ρ) {x y : Nat} {k : Nat → Option α} {r : α} (h : mz_oand F x y k = some r) : mz_I x = true ∧ mz_I y = true ∧ ∃ w, k w = some r ∧ mz_I w = true ∧ mz_i ρ w = (mz_i ρ x &&& mz_i ρ y) := by
  obtain ⟨h2, h⟩ := mz_ift h
  obtain ⟨b1, b2⟩ := mz_s1 (ρ := ρ) h2
  rcases mz_if h with ⟨h1, h⟩ | ⟨-, h⟩
  · obtain ⟨a1, a2⟩ := mz_s1 (ρ := ρ) h1
    rw [mz_f_eq] at h
    obtain ⟨g1, g2⟩ := mz_nw (ρ := ρ) (Nat.land (mz_q x) (mz_q y))
    exact ⟨a1, b1, _, h, g1, by rw [g2, a2, b2, mz_and]; rfl⟩
  · obtain ⟨h1, h⟩ := mz_ift h
    obtain ⟨h3, h⟩ := mz_ift h
    obtain ⟨h4, h⟩ := mz_ift h
    obtain ⟨h5, h⟩ := mz_ift h
    obtain ⟨a1, a2⟩ := mz_s4 (ρ := ρ) h1
    have q3 := mz_bq h3
    have q4 : mz_x x + 1 ≤ 4 := mz_bl h4
    have q5 := mz_bq h5
    obtain ⟨w, g0, g1, g2⟩ := mz_var_ok hF (show Nat.add (mz_x x) 8 < 32 by show mz_x x + 8 < 32; omega) h
    refine ⟨a1, b1, w, g0, g1, ?_⟩
    rw [g2, a2, b2, q3, q5]
    have e : ρ (mz_x x) + nI 0 = ρ (mz_x x) := mz_ext (by rw [mz_add_bv]; exact Nat.mod_eq_of_lt (mz_bv_lt _))
    rw [e]
    exact (hV (mz_x x) (by omega)).2
noncomputable def mz_oor (x y : Nat) (k : Nat → Option α) : Option α :=
  bif mz_t1 x then bif mz_t1 y then mz_f (mz_n (Nat.lor (mz_q x) (mz_q y))) k
    else bif mz_t4 y then bif Nat.beq (mz_o y) 0 then mz_f (mz_v 6 (mz_x y) (mz_q x)) k else none else none
  else none
theorem mz_oor_ok {x y : Nat} {k : Nat → Option α} {r : α} (h : mz_oor x y k = some r) : mz_I x = true ∧ mz_I y = true ∧ ∃ w, k w = some r ∧ mz_I w = true ∧ mz_i ρ w = (mz_i ρ x ||| mz_i ρ y) := by
  obtain ⟨h1, h⟩ := mz_ift h
  obtain ⟨a1, a2⟩ := mz_s1 (ρ := ρ) h1
  rcases mz_if h with ⟨h2, h⟩ | ⟨-, h⟩
  · obtain ⟨b1, b2⟩ := mz_s1 (ρ := ρ) h2
    rw [mz_f_eq] at h
    obtain ⟨g1, g2⟩ := mz_nw (ρ := ρ) (Nat.lor (mz_q x) (mz_q y))
    exact ⟨a1, b1, _, h, g1, by rw [g2, a2, b2, mz_or]; rfl⟩
  · obtain ⟨h2, h⟩ := mz_ift h
    obtain ⟨h3, h⟩ := mz_ift h
    obtain ⟨b1, b2⟩ := mz_s4 (ρ := ρ) h2
    have q3 := mz_bq h3
    rw [mz_f_eq] at h
    obtain ⟨g1, g2⟩ := mz_vw6 (ρ := ρ) (mz_x_lt y) (mz_q x)
    refine ⟨a1, b1, _, h, g1, ?_⟩
    have e : ρ (mz_x y) + nI 0 = ρ (mz_x y) := mz_ext (by rw [mz_add_bv]; exact Nat.mod_eq_of_lt (mz_bv_lt _))
    rw [g2, a2, b2, q3, e, Int32.or_comm]
noncomputable def mz_oshl (x y : Nat) (k : Nat → Option α) : Option α :=
  bif mz_t1 x then bif mz_t1 y then bif Nat.ble (Nat.succ (mz_q y)) 32 then bif Nat.ble (Nat.succ (Nat.mul (mz_q x) (Nat.pow 2 (mz_q y)))) 4294967296 then mz_f (mz_n (Nat.mul (mz_q x) (Nat.pow 2 (mz_q y)))) k else none else none else none else none
theorem mz_oshl_ok {x y : Nat} {k : Nat → Option α} {r : α} (h : mz_oshl x y k = some r) : mz_I x = true ∧ mz_I y = true ∧ ∃ w, k w = some r ∧ mz_I w = true ∧ mz_i ρ w = mz_i ρ x <<< mz_i ρ y := by
  obtain ⟨h1, h⟩ := mz_ift h
  obtain ⟨h2, h⟩ := mz_ift h
  obtain ⟨h3, h⟩ := mz_ift h
  obtain ⟨h4, h⟩ := mz_ift h
  obtain ⟨a1, a2⟩ := mz_s1 (ρ := ρ) h1
  obtain ⟨b1, b2⟩ := mz_s1 (ρ := ρ) h2
  rw [mz_f_eq] at h
  obtain ⟨g1, g2⟩ := mz_nw (ρ := ρ) (Nat.mul (mz_q x) (Nat.pow 2 (mz_q y)))
  exact ⟨a1, b1, _, h, g1, by rw [g2, a2, b2, mz_shl (mz_bl h3) (mz_bl h4)]; rfl⟩
noncomputable def mz_oshr (x y : Nat) (k : Nat → Option α) : Option α :=
  bif mz_sm x then bif mz_t1 y then bif Nat.ble (Nat.succ (mz_q y)) 32 then mz_f (mz_n (Nat.div (mz_q x) (Nat.pow 2 (mz_q y)))) k else none else none else none
theorem mz_oshr_ok {x y : Nat} {k : Nat → Option α} {r : α} (h : mz_oshr x y k = some r) : mz_I x = true ∧ mz_I y = true ∧ ∃ w, k w = some r ∧ mz_I w = true ∧ mz_i ρ w = mz_i ρ x >>> mz_i ρ y := by
  obtain ⟨h1, h⟩ := mz_ift h
  obtain ⟨h2, h⟩ := mz_ift h
  obtain ⟨h3, h⟩ := mz_ift h
  obtain ⟨h1, q1⟩ := mz_sm_ok h1
  obtain ⟨a1, a2⟩ := mz_s1 (ρ := ρ) h1
  obtain ⟨b1, b2⟩ := mz_s1 (ρ := ρ) h2
  rw [mz_f_eq] at h
  obtain ⟨g1, g2⟩ := mz_nw (ρ := ρ) (Nat.div (mz_q x) (Nat.pow 2 (mz_q y)))
  exact ⟨a1, b1, _, h, g1, by rw [g2, a2, b2, mz_shr (mz_bl h3) q1]; rfl⟩
noncomputable def mz_oneg (x : Nat) (k : Nat → Option α) : Option α :=
  bif mz_t1 x then mz_f (mz_n (Nat.mod (Nat.sub 4294967296 (Nat.mod (mz_q x) 4294967296)) 4294967296)) k
  else bif mz_t4 x then mz_f (mz_v 9 (mz_x x) (Nat.mod (Nat.sub 4294967296 (Nat.mod (mz_o x) 4294967296)) 4294967296)) k else none
theorem mz_oneg_ok {x : Nat} {k : Nat → Option α} {r : α} (h : mz_oneg x k = some r) : mz_I x = true ∧ ∃ w, k w = some r ∧ mz_I w = true ∧ mz_i ρ w = -mz_i ρ x := by
  rcases mz_if h with ⟨h1, h⟩ | ⟨-, h⟩
  · obtain ⟨a1, a2⟩ := mz_s1 (ρ := ρ) h1
    rw [mz_f_eq] at h
    obtain ⟨g1, g2⟩ := mz_nw (ρ := ρ) (Nat.mod (Nat.sub 4294967296 (Nat.mod (mz_q x) 4294967296)) 4294967296)
    exact ⟨a1, _, h, g1, by rw [g2, a2, mz_neg]; rfl⟩
  · obtain ⟨h1, h⟩ := mz_ift h
    obtain ⟨a1, a2⟩ := mz_s4 (ρ := ρ) h1
    rw [mz_f_eq] at h
    obtain ⟨g1, g2⟩ := mz_vw9 (ρ := ρ) (mz_x_lt x) (Nat.mod (Nat.sub 4294967296 (Nat.mod (mz_o x) 4294967296)) 4294967296)
    exact ⟨a1, _, h, g1, by rw [g2, a2, mz_negx]; rfl⟩
noncomputable def mz_oi2c (F : Nat → Nat × Nat) (x : Nat) (k : Nat → Option α) : Option α :=
  bif mz_t1 x then mz_f (mz_n (Nat.mod (mz_q x) 65536)) k
  else bif mz_t4 x then bif Nat.beq (mz_o x) 0 then bif Nat.ble (Nat.succ (mz_x x)) 4 then mz_var F (Nat.add (mz_x x) 4) k else none else none else none
theorem mz_oi2c_ok {F : Nat → Nat × Nat} (hF : mz_F F ρ) (hV : mz_V ρ) {x : Nat} {k : Nat → Option α} {r : α} (h : mz_oi2c F x k = some r) : mz_I x = true ∧ ∃ w, k w = some r ∧ mz_I w = true ∧ mz_i ρ w = ((mz_i ρ x).toUInt32 % 65536).toInt32 := by
  rcases mz_if h with ⟨h1, h⟩ | ⟨-, h⟩
  · obtain ⟨a1, a2⟩ := mz_s1 (ρ := ρ) h1
    rw [mz_f_eq] at h
    obtain ⟨g1, g2⟩ := mz_nw (ρ := ρ) (Nat.mod (mz_q x) 65536)
    exact ⟨a1, _, h, g1, by rw [g2, a2, mz_i2c]; rfl⟩
  · obtain ⟨h1, h⟩ := mz_ift h
    obtain ⟨h3, h⟩ := mz_ift h
    obtain ⟨h4, h⟩ := mz_ift h
    obtain ⟨a1, a2⟩ := mz_s4 (ρ := ρ) h1
    have q3 := mz_bq h3
    have q4 : mz_x x + 1 ≤ 4 := mz_bl h4
    obtain ⟨w, g0, g1, g2⟩ := mz_var_ok hF (show Nat.add (mz_x x) 4 < 32 by show mz_x x + 4 < 32; omega) h
    have e : ρ (mz_x x) + nI 0 = ρ (mz_x x) := mz_ext (by rw [mz_add_bv]; exact Nat.mod_eq_of_lt (mz_bv_lt _))
    exact ⟨a1, w, g0, g1, by rw [g2, a2, q3, e]; exact (hV (mz_x x) (by omega)).1⟩
noncomputable def mz_oi2b (F : Nat → Nat × Nat) (x : Nat) (k : Nat → Option α) : Option α :=
  mz_rg F x fun a b => bif Nat.ble 2147483648 a then bif Nat.ble (Nat.succ b) 2147483776 then k x else bif Nat.ble 2147483776 a then bif Nat.ble (Nat.succ b) 2147483904 then mz_oadd x (mz_n 4294967040) k else none else none else none
theorem mz_oi2b_ok {F : Nat → Nat × Nat} (hF : mz_F F ρ) {x : Nat} {k : Nat → Option α} {r : α} (h : mz_oi2b F x k = some r) : mz_I x = true ∧ ∃ w, k w = some r ∧ mz_I w = true ∧ mz_i ρ w = (mz_i ρ x).toInt8.toInt32 := by
  obtain ⟨a1, a, b, h, l1, l2⟩ := mz_rg_ok hF h
  obtain ⟨h1, h⟩ := mz_ift h
  have q1 := mz_bl h1
  rcases mz_if h with ⟨h2, h⟩ | ⟨-, h⟩
  · have q2 : b + 1 ≤ 2147483776 := mz_bl h2
    exact ⟨a1, x, h, a1, (mz_i2b (by omega) (by omega)).symm⟩
  · obtain ⟨h2, h⟩ := mz_ift h
    obtain ⟨h3, h⟩ := mz_ift h
    have q2 := mz_bl h2
    have q3 : b + 1 ≤ 2147483904 := mz_bl h3
    obtain ⟨-, -, w, g0, g1, g2⟩ := mz_oadd_ok (ρ := ρ) h
    exact ⟨a1, w, g0, g1, by rw [g2, (mz_nw (ρ := ρ) 4294967040).2, mz_i2bh (by omega) (by omega)]⟩
noncomputable def mz_oi2l (x : Nat) (k : Nat → Option α) : Option α :=
  bif mz_t1 x then mz_f (Nat.add x 2) k else bif mz_t4 x then mz_f (Nat.add x 1) k else none
theorem mz_oi2l_ok {x : Nat} {k : Nat → Option α} {r : α} (h : mz_oi2l x k = some r) : mz_I x = true ∧ ∃ w, k w = some r ∧ mz_L w = true ∧ mz_l ρ w = (mz_i ρ x).toInt64 := by
  rcases mz_if h with ⟨h1, h⟩ | ⟨-, h⟩
  · obtain ⟨a1, a2⟩ := mz_s1 (ρ := ρ) h1
    have q1 : x % 16 = 1 := mz_bq h1
    rw [mz_f_eq] at h
    have e1 : (x + 2) % 16 = 3 := by omega
    have e2 : (x + 2) / 16 = x / 16 := by omega
    refine ⟨a1, x + 2, h, ?_, ?_⟩
    · unfold mz_L; rw [show Nat.beq (Nat.mod (x + 2) 16) 3 = true by rw [show Nat.mod (x + 2) 16 = 3 from e1]; rfl]; rfl
    · rw [a2]; unfold mz_l; rw [if_pos e1, e2]; rfl
  · obtain ⟨h1, h⟩ := mz_ift h
    obtain ⟨a1, a2⟩ := mz_s4 (ρ := ρ) h1
    have q1 : x % 16 = 4 := mz_bq h1
    rw [mz_f_eq] at h
    have e1 : (x + 1) % 16 = 5 := by omega
    have e2 : (x + 1) / 16 = x / 16 := by omega
    have e3 : (x + 1) / 512 = x / 512 := by omega
    refine ⟨a1, x + 1, h, ?_, ?_⟩
    · unfold mz_L; rw [show Nat.mod (x + 1) 16 = 5 from e1]; rfl
    · rw [a2]; unfold mz_l; rw [if_neg (by omega), e2, e3]; rfl
/-- longs that are small numbers -/
noncomputable def mz_oladd (x y : Nat) (k : Nat → Option α) : Option α :=
  bif Nat.beq (Nat.mod x 16) 3 then bif Nat.beq (Nat.mod y 16) 3 then bif Nat.ble (mz_q x) 1000000000 then bif Nat.ble (mz_q y) 1000000000 then mz_f (Nat.add 3 (Nat.mul 16 (Nat.add (mz_q x) (mz_q y)))) k else none else none else none else none
theorem mz_oladd_ok {x y : Nat} {k : Nat → Option α} {r : α} (h : mz_oladd x y k = some r) : mz_L x = true ∧ mz_L y = true ∧ ∃ w, k w = some r ∧ mz_L w = true ∧ mz_l ρ w = mz_l ρ x + mz_l ρ y := by
  obtain ⟨h1, h⟩ := mz_ift h
  obtain ⟨h2, h⟩ := mz_ift h
  obtain ⟨h3, h⟩ := mz_ift h
  obtain ⟨h4, h⟩ := mz_ift h
  have q1 : x % 16 = 3 := mz_bq h1
  have q2 : y % 16 = 3 := mz_bq h2
  have q3 : x / 16 ≤ 1000000000 := mz_bl h3
  have q4 : y / 16 ≤ 1000000000 := mz_bl h4
  rw [mz_f_eq] at h
  have L3 : ∀ z : Nat, z % 16 = 3 → mz_L z = true := fun z hz => by unfold mz_L; rw [show Nat.mod z 16 = 3 from hz]; rfl
  obtain ⟨e1, e2⟩ := mz_tag 3 (x / 16 + y / 16) (by decide)
  refine ⟨L3 x q1, L3 y q2, 3 + 16 * (x / 16 + y / 16), h, L3 _ e1, ?_⟩
  unfold mz_l
  rw [if_pos e1, if_pos q1, if_pos q2, e2, nI_l (by omega), nI_l (by omega), nI_l (by omega), lN_add]
end MZO
end
section
/-! THE CELLS: a table of them (tag, length, where the words begin), their words in the memory; the world that they mean -/
def mz_ct (K k : Nat) : Nat := Nat.mod (mz_g K k) 256
def mz_cn (K k : Nat) : Nat := Nat.mod (Nat.div (mz_g K k) 256) 65536
def mz_cb (K k : Nat) : Nat := Nat.div (mz_g K k) 16777216
/-- the kinds of arrays: of the tag 64 and more -/
def mz_ty : List FieldType := [.int, .long, .char, .boolean, .double, .object "Hundredward$Plot", .object "Hundredward$Household", .object "Hundredward$Firm", .object "java/lang/Object"]
def mz_tys (cA : Nat → ClassId) : List (ClassId × FieldType) := (List.range 9).map fun t => (cA t, mz_ty.getD t .int)
theorem mz_tys_at {cA : Nat → ClassId} {t : Nat} (h : t < 9) : (mz_tys cA)[t]? = some (cA t, mz_ty.getD t .int) := by
  unfold mz_tys
  rw [List.getElem?_map, List.getElem?_range h]; rfl
def mz_toI : Value → Int32
  | .int x => x
  | _ => 0
def mz_toL : Value → Int64
  | .long x => x
  | _ => 0
def mz_toD : Value → UInt64
  | .double x => x
  | _ => 0
def mz_toR : Value → Option Nat
  | .ref x => some x
  | _ => none
def mz_pic (t n : Nat) (f : Nat → Value) : (Nat → Int32) ⊕ (Nat → Int64) ⊕ (Nat → UInt32) ⊕ (Nat → UInt64) ⊕ (Nat → Option Nat) :=
  if t = 1 then .inr (.inl fun j => if j < n then mz_toL (f j) else 0) else if t = 4 then .inr (.inr (.inr (.inl fun j => if j < n then mz_toD (f j) else 0)))
  else if t < 5 then .inl fun j => if j < n then mz_toI (f j) else 0 else .inr (.inr (.inr (.inr fun j => if j < n then mz_toR (f j) else none)))
theorem mz_pic_congr {t n : Nat} {f g : Nat → Value} (h : ∀ j, j < n → f j = g j) : mz_pic t n f = mz_pic t n g := by
  have e : ∀ {β : Type} (u : Value → β) (d : β), (fun j => if j < n then u (f j) else d) = (fun j => if j < n then u (g j) else d) := fun u d => by
    funext j
    by_cases hj : j < n
    · rw [if_pos hj, if_pos hj, h j hj]
    · rw [if_neg hj, if_neg hj]
  unfold mz_pic
  rw [e, e, e, e]
def mz_e (cA : Nat → ClassId) (t n : Nat) (f : Nat → Value) : va_E := if t < 64 then .inr (t, (List.range n).map f) else .inl (cA (t - 64), n, mz_pic (t - 64) n f)
theorem mz_e_congr {cA : Nat → ClassId} {t n : Nat} {f g : Nat → Value} (h : ∀ j, j < n → f j = g j) : mz_e cA t n f = mz_e cA t n g := by
  unfold mz_e
  rw [mz_pic_congr h, List.map_congr_left fun j hj => h j (List.mem_range.mp hj)]
def mz_E (cA : Nat → ClassId) (ad ao : Nat → Nat) (ρ : Nat → Int32) (M K k : Nat) : va_E := mz_e cA (mz_ct K k) (mz_cn K k) fun j => mz_c ad ao ρ (mz_g M (mz_cb K k + j))
def mz_w (cA : Nat → ClassId) (ad ao : Nat → Nat) (ρ : Nat → Int32) (M K n : Nat) : va_W := (List.range n).map fun k => (ad k, mz_E cA ad ao ρ M K k)
/-- the cells lie apart in the memory, all below top -/
def mz_K (n K top : Nat) : Prop := (∀ i j, i < j → j < n → mz_cb K i + mz_cn K i ≤ mz_cb K j) ∧ ∀ i, i < n → mz_cb K i + mz_cn K i ≤ top
section MZW
variable {cA : Nat → ClassId} {ad ad' ao : Nat → Nat} {ρ : Nat → Int32} {M K n top : Nat}
theorem mz_w_at {k : Nat} (h : k < n) : (mz_w cA ad ao ρ M K n)[k]? = some (ad k, mz_E cA ad ao ρ M K k) := by
  unfold mz_w
  rw [List.getElem?_map, List.getElem?_range h]; rfl
theorem mz_w_len : (mz_w cA ad ao ρ M K n).length = n := by unfold mz_w; simp
theorem mz_apart (h : mz_K n K top) {i k j q : Nat} (hi : i < n) (hk : k < n) (hne : i ≠ k) (hj : j < mz_cn K i) (hq : q < mz_cn K k) : mz_cb K i + j ≠ mz_cb K k + q := by
  rcases Nat.lt_or_gt_of_ne hne with z | z
  · have := h.1 i k z hk; omega
  · have := h.1 k i z hi; omega
theorem mz_E_other (h : mz_K n K top) {i k j v : Nat} (hi : i < n) (hk : k < n) (hne : i ≠ k) (hj : j < mz_cn K k) (hv : v < mz_B) : mz_E cA ad ao ρ (mz_p M (mz_cb K k + j) v) K i = mz_E cA ad ao ρ M K i := by
  refine mz_e_congr fun q hq => ?_
  rw [mz_gp hv, if_neg (mz_apart h hi hk hne hq hj)]
theorem mz_w_set (h : mz_K n K top) {k j v : Nat} {e : va_E} (hk : k < n) (hj : j < mz_cn K k) (hv : v < mz_B) (he : e = mz_E cA ad ao ρ (mz_p M (mz_cb K k + j) v) K k) :
    (mz_w cA ad ao ρ M K n).set k (ad k, e) = mz_w cA ad ao ρ (mz_p M (mz_cb K k + j) v) K n := by
  subst he
  refine List.ext_getElem? fun i => ?_
  rw [List.getElem?_set]
  by_cases hik : k = i
  · subst hik
    rw [if_pos rfl, if_pos (by rw [mz_w_len]; exact hk), mz_w_at hk]
  · rw [if_neg hik]
    by_cases hi : i < n
    · rw [mz_w_at hi, mz_w_at hi, mz_E_other h hi hk (Ne.symm hik) hj hv]
    · rw [List.getElem?_eq_none (by rw [mz_w_len]; omega), List.getElem?_eq_none (by rw [mz_w_len]; omega)]
/-- no reference to a cell that isn't there -/
def mz_cl (n w : Nat) : Bool := bif Nat.beq (Nat.mod w 16) 2 then bif Nat.ble (Nat.div w 16) n then true else Nat.ble 1048577 (Nat.div w 16) else true
theorem mz_cl_of {n w : Nat} (h : w % 16 = 2 → w / 16 ≤ n ∨ 1048577 ≤ w / 16) : mz_cl n w = true := by
  unfold mz_cl
  cases h1 : Nat.beq (Nat.mod w 16) 2 with
  | false => rfl
  | true =>
    show (bif Nat.ble (Nat.div w 16) n then true else Nat.ble 1048577 (Nat.div w 16)) = true
    rcases h (mz_bq h1) with q | q
    · rw [show Nat.ble (Nat.div w 16) n = true from Nat.ble_eq_true_of_le q]; rfl
    · rw [show Nat.ble 1048577 (Nat.div w 16) = true from Nat.ble_eq_true_of_le q]
      cases Nat.ble (Nat.div w 16) n <;> rfl
theorem mz_cl_or {n w : Nat} (h : mz_cl n w = true) (h2 : w % 16 = 2) : w / 16 ≤ n ∨ 1048577 ≤ w / 16 := by
  unfold mz_cl at h
  rw [show Nat.mod w 16 = 2 from h2] at h
  cases h1 : Nat.ble (Nat.div w 16) n with
  | true => exact Or.inl (mz_bl h1)
  | false =>
    rw [h1] at h
    exact Or.inr (mz_bl h)
theorem mz_cl_mono {n n' w : Nat} (hn : n ≤ n') (h : mz_cl n w = true) : mz_cl n' w = true := mz_cl_of fun h2 => (mz_cl_or h h2).imp (fun q => Nat.le_trans q hn) id
theorem mz_cl_I {n w : Nat} (h : mz_I w = true) : mz_cl n w = true := mz_cl_of fun h2 => by
  rcases mz_I_or h with q | q | q | q <;> omega
theorem mz_cl_L {n w : Nat} (h : mz_L w = true) : mz_cl n w = true := mz_cl_of fun h2 => by
  rcases mz_L_or h with q | q <;> omega
theorem mz_cl_t {n w : Nat} (h : w % 16 ≠ 2) : mz_cl n w = true := mz_cl_of fun h2 => absurd h2 h
theorem mz_c_ad {n w : Nat} (h : mz_cl n w = true) (ha : ∀ k, k < n → ad' k = ad k) : mz_c ad' ao ρ w = mz_c ad ao ρ w := by
  by_cases h2 : w % 16 = 2
  · have e1 : mz_c ad' ao ρ w = mz_r ad' ao (w / 16) := by simp [mz_c, h2]
    have e2 : mz_c ad ao ρ w = mz_r ad ao (w / 16) := by simp [mz_c, h2]
    rw [e1, e2]
    unfold mz_r
    by_cases q0 : w / 16 = 0
    · rw [if_pos q0, if_pos q0]
    · rw [if_neg q0, if_neg q0]
      by_cases q1 : w / 16 ≤ 1048576
      · rw [if_pos q1, if_pos q1]
        rcases mz_cl_or h h2 with q | q
        · rw [ha _ (by omega)]
        · omega
      · rw [if_neg q1, if_neg q1]
  · simp [mz_c, h2]
theorem mz_E_ad (hC : ∀ i, mz_cl n (mz_g M i) = true) (ha : ∀ k, k < n → ad' k = ad k) (k : Nat) : mz_E cA ad' ao ρ M K k = mz_E cA ad ao ρ M K k :=
  mz_e_congr fun _ _ => mz_c_ad (hC _) ha
theorem mz_w_ad (hC : ∀ i, mz_cl n (mz_g M i) = true) (ha : ∀ k, k < n → ad' k = ad k) : mz_w cA ad' ao ρ M K n = mz_w cA ad ao ρ M K n := by
  unfold mz_w
  refine List.map_congr_left fun k hk => ?_
  rw [ha k (List.mem_range.mp hk), mz_E_ad hC ha]
theorem mz_st_ad {st : List Nat} (hC : ∀ w ∈ st, mz_cl n w = true) (ha : ∀ k, k < n → ad' k = ad k) : st.map (mz_c ad' ao ρ) = st.map (mz_c ad ao ρ) :=
  List.map_congr_left fun w hw => mz_c_ad (hC w hw) ha
theorem mz_gp_cl {n i v j : Nat} (hv : v < mz_B) (hc : mz_cl n v = true) (hC : ∀ i, mz_cl n (mz_g M i) = true) : mz_cl n (mz_g (mz_p M i v) j) = true := by
  rw [mz_gp hv]
  by_cases q : j = i
  · rw [if_pos q]; exact hc
  · rw [if_neg q]; exact hC j
end MZW
end
section
/-! A METHOD'S WALK, SEEN FROM THE SMALL MACHINE. X: the machine's own things; C: what holds of them all along; mz_G: from this small state the walk comes to its end. -/
abbrev mz_Xt : Type := Program × Launch × Env × Room × State × MethodId × Array Value × List Frame × Method × Code × Nat × va_G × (Nat → ClassId) × (Nat → Nat) × (Nat → Int32) × (Nat → Prop) × Nat × (Nat → Nat) × (State → Prop)
def mz_Cx : mz_Xt → ByteArray → String → List Jvm.Cond → (Nat → Nat × Nat) → Prop
  | (p, l, e, R, s, m, args, below, meth, c, nL, D, cA, ao, ρ, A, n0, ad0, Q), cc, own, Ts, F =>
    p.tables.exec = Jvm.exec ∧ c.code = cc ∧ c.maxLocals = nL ∧ s.vm.findClass own = some m.cls ∧ (∀ w ∈ Ts, w.before args s = true) ∧ va_K D vwCl (mz_tys cA) s ∧ (∀ q : Nat, s.heap.size ≤ q → A q) ∧ mz_F F ρ ∧ mz_V ρ
def mz_Z (D : va_G) (cA : Nat → ClassId) (ad ao : Nat → Nat) (ρ : Nat → Int32) (A : Nat → Prop) (H0 H : Heap) (locs : List Loc) (M K n top : Nat) : Prop :=
  va_P D vwCl (mz_w cA ad ao ρ M K n) H ∧ va_D A (mz_w cA ad ao ρ M K n) ∧ va_S A H0 H locs ∧ mz_K n K top ∧ ∀ i, mz_cl n (mz_g M i) = true
def mz_df (w : Nat) : Bool := bif Nat.beq (Nat.mod w 16) 0 then false else true
/-- two words of locals -/
def mz_c2 (w : Nat) : Bool := bif Nat.beq (Nat.mod w 16) 3 then true else bif Nat.beq (Nat.mod w 16) 5 then true else Nat.beq (Nat.mod w 16) 8
def mz_ls (ad ao : Nat → Nat) (ρ : Nat → Int32) (n nL : Nat) (ls : Array Slot) (L : Nat) : Prop :=
  ls.size = nL ∧ lv_wf ls ∧ (∀ i, mz_df (mz_g L i) = true → ls[i]? = some (.val (mz_c ad ao ρ (mz_g L i)))) ∧ ∀ i, mz_cl n (mz_g L i) = true
def mz_G : mz_Xt → Nat → Nat → List Nat → Nat → Nat → Nat → Nat → Nat → Nat → Prop
  | (p, l, e, R, s, m, args, below, meth, c, nL, D, cA, ao, ρ, A, n0, ad0, Q), pc, L, st, M, K, n, top, nc, ns =>
    ∀ (ad : Nat → Nat) (ls : Array Slot) (H : Heap) (locs : List Loc), n0 ≤ n → (∀ k, k < n0 → ad k = ad0 k) → mz_Z D cA ad ao ρ A s.heap H locs M K n top → mz_ls ad ao ρ n nL ls L → (∀ w ∈ st, mz_cl n w = true) →
      W p l e R s m args below meth c H locs nc ns Q (F0 m pc ls (st.map (mz_c ad ao ρ)))
theorem mz_df_of {w : Nat} (h : w % 16 ≠ 0) : mz_df w = true := by
  unfold mz_df
  cases h1 : Nat.beq (Nat.mod w 16) 0 with
  | false => rfl
  | true => exact absurd (mz_bq h1) h
theorem mz_df_I {w : Nat} (h : mz_I w = true) : mz_df w = true := mz_df_of (by rcases mz_I_or h with q | q | q | q <;> omega)
theorem mz_df_L {w : Nat} (h : mz_L w = true) : mz_df w = true := mz_df_of (by rcases mz_L_or h with q | q <;> omega)
theorem mz_df_R {w : Nat} (h : mz_R w = true) : mz_df w = true := mz_df_of (by have q : w % 16 = 2 := mz_bq h; omega)
theorem mz_hd {n w : Nat} {st : List Nat} (h : mz_cl n w = true) (hst : ∀ v ∈ st, mz_cl n v = true) : ∀ v ∈ w :: st, mz_cl n v = true := List.forall_mem_cons.mpr ⟨h, hst⟩
theorem mz_lc : ∀ z : Fin 2, Int64.ofNat z.val = (nI z.val).toInt64 := by decide +kernel
/-- the places of the locals -/
def mz_nL : mz_Xt → Nat
  | (p, l, e, R, s, m, args, below, meth, c, nL, D, cA, ao, ρ, A, n0, ad0, Q) => nL
section MZ1
variable {X : mz_Xt} {cc : ByteArray} {own : String} {Ts : List Jvm.Cond} {F : Nat → Nat × Nat} {pc L M K n top nc ns : Nat} {st : List Nat}
/-! constants -/
theorem mz_iconst {a : Nat} {z : Int} (C : mz_Cx X cc own Ts F) (hd : decode cc pc = .ok (.iconst z, 1)) (hz : Int32.ofInt z = nI a) (k : mz_G X (pc + 1) L (mz_n a :: st) M K n top nc ns) : mz_G X pc L st M K n top nc ns := by
  obtain ⟨p, l, e, R, s, m, args, below, meth, c, nL, D, cA, ao, ρ, A, n0, ad0, Q⟩ := X
  obtain ⟨hx, hb, -⟩ := C
  intro ad ls H locs hn had hZ hl hst
  refine lv_iconst hx hb hd hz ?_
  have q := k ad ls H locs hn had hZ hl (mz_hd (mz_cl_I (mz_nw (ρ := ρ) a).1) hst)
  rw [List.map_cons, mz_cI (mz_nw (ρ := ρ) a).1, (mz_nw (ρ := ρ) a).2] at q
  exact q
theorem mz_bipush {a : Nat} {z : Int} (C : mz_Cx X cc own Ts F) (hd : decode cc pc = .ok (.bipush z, 2)) (hz : (Int8.ofInt z).toInt32 = nI a) (k : mz_G X (pc + 2) L (mz_n a :: st) M K n top nc ns) : mz_G X pc L st M K n top nc ns := by
  obtain ⟨p, l, e, R, s, m, args, below, meth, c, nL, D, cA, ao, ρ, A, n0, ad0, Q⟩ := X
  obtain ⟨hx, hb, -⟩ := C
  intro ad ls H locs hn had hZ hl hst
  refine lv_bipush hx hb hd hz ?_
  have q := k ad ls H locs hn had hZ hl (mz_hd (mz_cl_I (mz_nw (ρ := ρ) a).1) hst)
  rw [List.map_cons, mz_cI (mz_nw (ρ := ρ) a).1, (mz_nw (ρ := ρ) a).2] at q
  exact q
theorem mz_sipush {a : Nat} {z : Int} (C : mz_Cx X cc own Ts F) (hd : decode cc pc = .ok (.sipush z, 3)) (hz : (Int16.ofInt z).toInt32 = nI a) (k : mz_G X (pc + 3) L (mz_n a :: st) M K n top nc ns) : mz_G X pc L st M K n top nc ns := by
  obtain ⟨p, l, e, R, s, m, args, below, meth, c, nL, D, cA, ao, ρ, A, n0, ad0, Q⟩ := X
  obtain ⟨hx, hb, -⟩ := C
  intro ad ls H locs hn had hZ hl hst
  refine lv_sipush hx hb hd hz ?_
  have q := k ad ls H locs hn had hZ hl (mz_hd (mz_cl_I (mz_nw (ρ := ρ) a).1) hst)
  rw [List.map_cons, mz_cI (mz_nw (ρ := ρ) a).1, (mz_nw (ρ := ρ) a).2] at q
  exact q
theorem mz_ldci {a i : Nat} {z : Int32} (C : mz_Cx X cc own Ts F) (hd : decode cc pc = .ok (.ldc i, 2)) (hw : Jvm.Cond.constant own i z ∈ Ts) (hz : z = nI a) (k : mz_G X (pc + 2) L (mz_n a :: st) M K n top nc ns) : mz_G X pc L st M K n top nc ns := by
  obtain ⟨p, l, e, R, s, m, args, below, meth, c, nL, D, cA, ao, ρ, A, n0, ad0, Q⟩ := X
  obtain ⟨hx, hb, hml, hown, hts, -⟩ := C
  intro ad ls H locs hn had hZ hl hst
  subst hz
  refine lv_ldc hx hb hown (hts _ hw) hd ?_
  have q := k ad ls H locs hn had hZ hl (mz_hd (mz_cl_I (mz_nw (ρ := ρ) a).1) hst)
  rw [List.map_cons, mz_cI (mz_nw (ρ := ρ) a).1, (mz_nw (ρ := ρ) a).2] at q
  exact q
theorem mz_null (C : mz_Cx X cc own Ts F) (hd : decode cc pc = .ok (.aconst_null, 1)) (k : mz_G X (pc + 1) L (2 :: st) M K n top nc ns) : mz_G X pc L st M K n top nc ns := by
  obtain ⟨p, l, e, R, s, m, args, below, meth, c, nL, D, cA, ao, ρ, A, n0, ad0, Q⟩ := X
  obtain ⟨hx, hb, -⟩ := C
  intro ad ls H locs hn had hZ hl hst
  exact lv_null hx hb hd (k ad ls H locs hn had hZ hl (mz_hd (mz_cl_of fun _ => Or.inl (Nat.zero_le _)) hst))
theorem mz_lconst {z : Fin 2} (C : mz_Cx X cc own Ts F) (hd : decode cc pc = .ok (.lconst z, 1)) (k : mz_G X (pc + 1) L (Nat.add 3 (Nat.mul 16 z.val) :: st) M K n top nc ns) : mz_G X pc L st M K n top nc ns := by
  obtain ⟨p, l, e, R, s, m, args, below, meth, c, nL, D, cA, ao, ρ, A, n0, ad0, Q⟩ := X
  obtain ⟨hx, hb, -⟩ := C
  intro ad ls H locs hn had hZ hl hst
  have h3 : (3 + 16 * z.val) % 16 = 3 := (mz_tag 3 z.val (by decide)).1
  have q := k ad ls H locs hn had hZ hl (mz_hd (mz_cl_t (show (3 + 16 * z.val) % 16 ≠ 2 by omega)) hst)
  rw [List.map_cons] at q
  refine lv_lconst hx hb hd (v := (nI z.val).toInt64) (mz_lc z) ?_
  have e1 : mz_c ad ao ρ (Nat.add 3 (Nat.mul 16 z.val)) = .long (nI z.val).toInt64 := by
    show mz_c ad ao ρ (3 + 16 * z.val) = _
    have h4 : (3 + 16 * z.val) / 16 = z.val := (mz_tag 3 z.val (by decide)).2
    simp [mz_c, h3, h4]
  rw [e1] at q
  exact q
theorem mz_fconst (C : mz_Cx X cc own Ts F) (hd : decode cc pc = .ok (.fconst 0, 1)) (k : mz_G X (pc + 1) L (7 :: st) M K n top nc ns) : mz_G X pc L st M K n top nc ns := by
  obtain ⟨p, l, e, R, s, m, args, below, meth, c, nL, D, cA, ao, ρ, A, n0, ad0, Q⟩ := X
  obtain ⟨hx, hb, -⟩ := C
  intro ad ls H locs hn had hZ hl hst
  exact lv_fconst0 hx hb hd (k ad ls H locs hn had hZ hl (mz_hd (mz_cl_t (by decide)) hst))
theorem mz_dconst (C : mz_Cx X cc own Ts F) (hd : decode cc pc = .ok (.dconst 0, 1)) (k : mz_G X (pc + 1) L (8 :: st) M K n top nc ns) : mz_G X pc L st M K n top nc ns := by
  obtain ⟨p, l, e, R, s, m, args, below, meth, c, nL, D, cA, ao, ρ, A, n0, ad0, Q⟩ := X
  obtain ⟨hx, hb, -⟩ := C
  intro ad ls H locs hn had hZ hl hst
  exact lv_dconst0 hx hb hd (k ad ls H locs hn had hZ hl (mz_hd (mz_cl_t (by decide)) hst))
/-! loads -/
theorem mz_iload_n {j : Fin 4} (C : mz_Cx X cc own Ts F) (hd : decode cc pc = .ok (.iload_n j, 1)) (hw : mz_I (mz_g L j.val) = true) (k : mz_G X (pc + 1) L (mz_g L j.val :: st) M K n top nc ns) : mz_G X pc L st M K n top nc ns := by
  obtain ⟨p, l, e, R, s, m, args, below, meth, c, nL, D, cA, ao, ρ, A, n0, ad0, Q⟩ := X
  obtain ⟨hx, hb, -⟩ := C
  intro ad ls H locs hn had hZ hl hst
  have q := k ad ls H locs hn had hZ hl (mz_hd (hl.2.2.2 _) hst)
  have h1 := hl.2.2.1 _ (mz_df_I hw)
  rw [List.map_cons, mz_cI hw] at q
  rw [mz_cI hw] at h1
  exact lv_iload_n hx hb hd rfl h1 q
theorem mz_iload {i : Nat} (C : mz_Cx X cc own Ts F) (hd : decode cc pc = .ok (.iload i, 2)) (hw : mz_I (mz_g L i) = true) (k : mz_G X (pc + 2) L (mz_g L i :: st) M K n top nc ns) : mz_G X pc L st M K n top nc ns := by
  obtain ⟨p, l, e, R, s, m, args, below, meth, c, nL, D, cA, ao, ρ, A, n0, ad0, Q⟩ := X
  obtain ⟨hx, hb, -⟩ := C
  intro ad ls H locs hn had hZ hl hst
  have q := k ad ls H locs hn had hZ hl (mz_hd (hl.2.2.2 _) hst)
  have h1 := hl.2.2.1 _ (mz_df_I hw)
  rw [List.map_cons, mz_cI hw] at q
  rw [mz_cI hw] at h1
  exact lv_iload hx hb hd h1 q
theorem mz_lload_n {j : Fin 4} (C : mz_Cx X cc own Ts F) (hd : decode cc pc = .ok (.lload_n j, 1)) (hw : mz_L (mz_g L j.val) = true) (k : mz_G X (pc + 1) L (mz_g L j.val :: st) M K n top nc ns) : mz_G X pc L st M K n top nc ns := by
  obtain ⟨p, l, e, R, s, m, args, below, meth, c, nL, D, cA, ao, ρ, A, n0, ad0, Q⟩ := X
  obtain ⟨hx, hb, -⟩ := C
  intro ad ls H locs hn had hZ hl hst
  have q := k ad ls H locs hn had hZ hl (mz_hd (hl.2.2.2 _) hst)
  have h1 := hl.2.2.1 _ (mz_df_L hw)
  rw [List.map_cons, mz_cL hw] at q
  rw [mz_cL hw] at h1
  exact lv_lload_n hx hb hd rfl h1 q
theorem mz_r_or {ad ao : Nat → Nat} (q : Nat) : mz_r ad ao q = .null ∨ ∃ a, mz_r ad ao q = .ref a := by
  unfold mz_r
  by_cases h0 : q = 0
  · rw [if_pos h0]; exact Or.inl rfl
  · rw [if_neg h0]
    by_cases h1 : q ≤ 1048576
    · rw [if_pos h1]; exact Or.inr ⟨_, rfl⟩
    · rw [if_neg h1]; exact Or.inr ⟨_, rfl⟩
theorem mz_aload_n {j : Fin 4} (C : mz_Cx X cc own Ts F) (hd : decode cc pc = .ok (.aload_n j, 1)) (hw : mz_R (mz_g L j.val) = true) (k : mz_G X (pc + 1) L (mz_g L j.val :: st) M K n top nc ns) : mz_G X pc L st M K n top nc ns := by
  obtain ⟨p, l, e, R, s, m, args, below, meth, c, nL, D, cA, ao, ρ, A, n0, ad0, Q⟩ := X
  obtain ⟨hx, hb, -⟩ := C
  intro ad ls H locs hn had hZ hl hst
  have q := k ad ls H locs hn had hZ hl (mz_hd (hl.2.2.2 _) hst)
  have h1 := hl.2.2.1 _ (mz_df_R hw)
  rw [List.map_cons, mz_cR hw] at q
  rw [mz_cR hw] at h1
  rcases mz_r_or (ad := ad) (ao := ao) (mz_g L j.val / 16) with z | ⟨a, z⟩
  · rw [z] at q h1
    exact lv_aload_nN hx hb hd rfl h1 q
  · rw [z] at q h1
    exact lv_aload_n hx hb hd rfl h1 q
theorem mz_aload {i : Nat} (C : mz_Cx X cc own Ts F) (hd : decode cc pc = .ok (.aload i, 2)) (hw : mz_R (mz_g L i) = true) (k : mz_G X (pc + 2) L (mz_g L i :: st) M K n top nc ns) : mz_G X pc L st M K n top nc ns := by
  obtain ⟨p, l, e, R, s, m, args, below, meth, c, nL, D, cA, ao, ρ, A, n0, ad0, Q⟩ := X
  obtain ⟨hx, hb, -⟩ := C
  intro ad ls H locs hn had hZ hl hst
  have q := k ad ls H locs hn had hZ hl (mz_hd (hl.2.2.2 _) hst)
  have h1 := hl.2.2.1 _ (mz_df_R hw)
  rw [List.map_cons, mz_cR hw] at q
  rw [mz_cR hw] at h1
  rcases mz_r_or (ad := ad) (ao := ao) (mz_g L i / 16) with z | ⟨a, z⟩
  · rw [z] at q h1
    exact lv_aloadN hx hb hd h1 q
  · rw [z] at q h1
    exact lv_aload hx hb hd h1 q
/-! stores -/
def mz_lv (ad ao : Nat → Nat) (ρ : Nat → Int32) (L nL : Nat) : List (Nat × Value) := ((List.range nL).filter fun i => mz_df (mz_g L i)).map fun i => (i, mz_c ad ao ρ (mz_g L i))
theorem mz_lv_has {ad ao : Nat → Nat} {ρ : Nat → Int32} {nL : Nat} {ls : Array Slot} (h : mz_ls ad ao ρ n nL ls L) : lv_has ls nL (mz_lv ad ao ρ L nL) := by
  refine ⟨h.1, h.2.1, fun q hq => ?_⟩
  obtain ⟨i, hi, rfl⟩ := List.mem_map.mp hq
  exact h.2.2.1 i (List.mem_filter.mp hi).2
theorem mz_lv_in {ad ao : Nat → Nat} {ρ : Nat → Int32} {nL : Nat} {ls : Array Slot} (h : mz_ls ad ao ρ n nL ls L) {i : Nat} (hi : mz_df (mz_g L i) = true) : (i, mz_c ad ao ρ (mz_g L i)) ∈ mz_lv ad ao ρ L nL := by
  have h1 := lv_lt (h.2.2.1 i hi)
  rw [h.1] at h1
  exact List.mem_map.mpr ⟨i, List.mem_filter.mpr ⟨List.mem_range.mpr h1, hi⟩, rfl⟩
theorem mz_c2_cat {ad ao : Nat → Nat} {ρ : Nat → Int32} {w : Nat} (h : mz_c2 w = false) : (mz_c ad ao ρ w).category ≠ 2 := by
  have h3 : w % 16 ≠ 3 := fun z => by unfold mz_c2 at h; rw [show Nat.mod w 16 = 3 from z] at h; cases h
  have h5 : w % 16 ≠ 5 := fun z => by unfold mz_c2 at h; rw [show Nat.mod w 16 = 5 from z] at h; cases h
  have h8 : w % 16 ≠ 8 := fun z => by unfold mz_c2 at h; rw [show Nat.mod w 16 = 8 from z] at h; cases h
  by_cases h2 : w % 16 = 2
  · have e1 : mz_c ad ao ρ w = mz_r ad ao (w / 16) := by simp [mz_c, h2]
    rw [e1]
    rcases mz_r_or (ad := ad) (ao := ao) (w / 16) with z | ⟨a, z⟩ <;> rw [z] <;> simp [Value.category]
  · simp only [mz_c, h2, h3, h5, h8, if_false]
    repeat' split
    all_goals simp [Value.category]
/-- the place before holds no value of two words -/
def mz_b4 (L i : Nat) : Bool := bif Nat.beq i 0 then true else bif mz_c2 (mz_g L (Nat.sub i 1)) then false else true
theorem mz_b4_ok {i : Nat} (h : mz_b4 L i = true) {j : Nat} (hj : j + 1 = i) : mz_c2 (mz_g L j) = false := by
  unfold mz_b4 at h
  cases h1 : Nat.beq i 0 with
  | true => exact absurd (mz_bq h1) (by omega)
  | false =>
    rw [h1] at h
    have e : Nat.sub i 1 = j := by show i - 1 = j; omega
    rw [e] at h
    cases h2 : mz_c2 (mz_g L j) with
    | true => rw [h2] at h; cases h
    | false => rfl
theorem mz_store1 {ad ao : Nat → Nat} {ρ : Nat → Int32} {nL i w : Nat} {ls ls' : Array Slot} (h : mz_ls ad ao ρ n nL ls L) (hv : w < mz_B) (hc : mz_cl n w = true) (h4 : mz_b4 L i = true)
    (h' : lv_has ls' nL ((i, mz_c ad ao ρ w) :: (mz_lv ad ao ρ L nL).filter (fun q => !(q.1 == i) && !(q.1 + 1 == i && q.2.category == 2)))) : mz_ls ad ao ρ n nL ls' (mz_p L i w) := by
  refine ⟨h'.1, h'.2.1, fun j hj => ?_, fun j => mz_gp_cl hv hc h.2.2.2⟩
  rw [mz_gp hv] at hj ⊢
  by_cases q : j = i
  · subst q
    rw [if_pos rfl]
    exact h'.2.2 _ List.mem_cons_self
  · rw [if_neg q] at hj ⊢
    refine h'.2.2 (j, mz_c ad ao ρ (mz_g L j)) (List.mem_cons_of_mem _ (List.mem_filter.mpr ⟨mz_lv_in h hj, ?_⟩))
    have e1 : (j == i) = false := by simpa using q
    show (!(j == i) && !(j + 1 == i && (mz_c ad ao ρ (mz_g L j)).category == 2)) = true
    rw [e1]
    by_cases q2 : j + 1 = i
    · have := mz_c2_cat (ad := ad) (ao := ao) (ρ := ρ) (mz_b4_ok h4 q2)
      simp [this]
    · simp [q2]
theorem mz_istore_n {j : Fin 4} {w : Nat} (C : mz_Cx X cc own Ts F) (hd : decode cc pc = .ok (.istore_n j, 1)) (hw : mz_I w = true) (hv : w < mz_B) (h4 : mz_b4 L j.val = true) (hn4 : j.val < mz_nL X) (k : mz_G X (pc + 1) (mz_p L j.val w) st M K n top nc ns) : mz_G X pc L (w :: st) M K n top nc ns := by
  obtain ⟨p, l, e, R, s, m, args, below, meth, c, nL, D, cA, ao, ρ, A, n0, ad0, Q⟩ := X
  obtain ⟨hx, hb, -⟩ := C
  intro ad ls H locs hn had hZ hl hst
  rw [List.map_cons, mz_cI hw]
  refine lv_istore_n hx hb hd rfl (mz_lv_has hl) hn4 rfl fun ls' h' => ?_
  rw [← mz_cI (ad := ad) (ao := ao) hw] at h'
  exact k ad ls' H locs hn had hZ (mz_store1 hl hv (mz_cl_I hw) h4 h') (List.forall_mem_cons.mp hst).2
end MZ1
end
section
def mz_rho : mz_Xt → Nat → Int32
  | (p, l, e, R, s, m, args, below, meth, c, nL, D, cA, ao, ρ, A, n0, ad0, Q) => ρ
section MZ2
variable {X : mz_Xt} {cc : ByteArray} {own : String} {Ts : List Jvm.Cond} {F : Nat → Nat × Nat} {pc L M K n top nc ns : Nat} {st : List Nat}
theorem mz_istore {i w : Nat} (C : mz_Cx X cc own Ts F) (hd : decode cc pc = .ok (.istore i, 2)) (hw : mz_I w = true) (hv : w < mz_B) (h4 : mz_b4 L i = true) (hn4 : i < mz_nL X) (k : mz_G X (pc + 2) (mz_p L i w) st M K n top nc ns) : mz_G X pc L (w :: st) M K n top nc ns := by
  obtain ⟨p, l, e, R, s, m, args, below, meth, c, nL, D, cA, ao, ρ, A, n0, ad0, Q⟩ := X
  obtain ⟨hx, hb, -⟩ := C
  intro ad ls H locs hn had hZ hl hst
  rw [List.map_cons, mz_cI hw]
  refine lv_istore hx hb hd (mz_lv_has hl) hn4 rfl fun ls' h' => ?_
  rw [← mz_cI (ad := ad) (ao := ao) hw] at h'
  exact k ad ls' H locs hn had hZ (mz_store1 hl hv (mz_cl_I hw) h4 h') (List.forall_mem_cons.mp hst).2
theorem mz_astore_n {j : Fin 4} {w : Nat} (C : mz_Cx X cc own Ts F) (hd : decode cc pc = .ok (.astore_n j, 1)) (hw : mz_R w = true) (hv : w < mz_B) (h4 : mz_b4 L j.val = true) (hn4 : j.val < mz_nL X) (k : mz_G X (pc + 1) (mz_p L j.val w) st M K n top nc ns) : mz_G X pc L (w :: st) M K n top nc ns := by
  obtain ⟨p, l, e, R, s, m, args, below, meth, c, nL, D, cA, ao, ρ, A, n0, ad0, Q⟩ := X
  obtain ⟨hx, hb, -⟩ := C
  intro ad ls H locs hn had hZ hl hst
  have hs := List.forall_mem_cons.mp hst
  rw [List.map_cons]
  rcases mz_r_or (ad := ad) (ao := ao) (w / 16) with z | ⟨a, z⟩
  · have e1 : mz_c ad ao ρ w = .null := by rw [mz_cR hw, z]
    rw [e1]
    refine lv_astore_nN hx hb hd rfl (mz_lv_has hl) hn4 rfl fun ls' h' => ?_
    rw [← e1] at h'
    exact k ad ls' H locs hn had hZ (mz_store1 hl hv hs.1 h4 h') hs.2
  · have e1 : mz_c ad ao ρ w = .ref a := by rw [mz_cR hw, z]
    rw [e1]
    refine lv_astore_n hx hb hd rfl (mz_lv_has hl) hn4 rfl fun ls' h' => ?_
    rw [← e1] at h'
    exact k ad ls' H locs hn had hZ (mz_store1 hl hv hs.1 h4 h') hs.2
theorem mz_astore {i w : Nat} (C : mz_Cx X cc own Ts F) (hd : decode cc pc = .ok (.astore i, 2)) (hw : mz_R w = true) (hv : w < mz_B) (h4 : mz_b4 L i = true) (hn4 : i < mz_nL X) (k : mz_G X (pc + 2) (mz_p L i w) st M K n top nc ns) : mz_G X pc L (w :: st) M K n top nc ns := by
  obtain ⟨p, l, e, R, s, m, args, below, meth, c, nL, D, cA, ao, ρ, A, n0, ad0, Q⟩ := X
  obtain ⟨hx, hb, -⟩ := C
  intro ad ls H locs hn had hZ hl hst
  have hs := List.forall_mem_cons.mp hst
  rw [List.map_cons]
  rcases mz_r_or (ad := ad) (ao := ao) (w / 16) with z | ⟨a, z⟩
  · have e1 : mz_c ad ao ρ w = .null := by rw [mz_cR hw, z]
    rw [e1]
    refine lv_astoreN hx hb hd (mz_lv_has hl) hn4 rfl fun ls' h' => ?_
    rw [← e1] at h'
    exact k ad ls' H locs hn had hZ (mz_store1 hl hv hs.1 h4 h') hs.2
  · have e1 : mz_c ad ao ρ w = .ref a := by rw [mz_cR hw, z]
    rw [e1]
    refine lv_astore hx hb hd (mz_lv_has hl) hn4 rfl fun ls' h' => ?_
    rw [← e1] at h'
    exact k ad ls' H locs hn had hZ (mz_store1 hl hv hs.1 h4 h') hs.2
theorem mz_fstore {i : Nat} (C : mz_Cx X cc own Ts F) (hd : decode cc pc = .ok (.fstore i, 2)) (h4 : mz_b4 L i = true) (hn4 : i < mz_nL X) (k : mz_G X (pc + 2) (mz_p L i 7) st M K n top nc ns) : mz_G X pc L (7 :: st) M K n top nc ns := by
  obtain ⟨p, l, e, R, s, m, args, below, meth, c, nL, D, cA, ao, ρ, A, n0, ad0, Q⟩ := X
  obtain ⟨hx, hb, -⟩ := C
  intro ad ls H locs hn had hZ hl hst
  have hs := List.forall_mem_cons.mp hst
  rw [List.map_cons]
  have e1 : mz_c ad ao ρ 7 = .float 0 := by simp [mz_c]
  rw [e1]
  refine lv_fstore hx hb hd (mz_lv_has hl) hn4 rfl fun ls' h' => ?_
  rw [← e1] at h'
  exact k ad ls' H locs hn had hZ (mz_store1 hl (by decide) hs.1 h4 h') hs.2
theorem mz_store2 {ad ao : Nat → Nat} {ρ : Nat → Int32} {nL i w : Nat} {ls ls' : Array Slot} (h : mz_ls ad ao ρ n nL ls L) (hv : w < mz_B) (hc : mz_cl n w = true) (h4 : mz_b4 L i = true)
    (h' : lv_has ls' nL ((i, mz_c ad ao ρ w) :: (mz_lv ad ao ρ L nL).filter (fun q => !(q.1 == i) && (!(q.1 == i + 1) && !(q.1 + 1 == i && q.2.category == 2))))) : mz_ls ad ao ρ n nL ls' (mz_p (mz_p L i w) (i + 1) 0) := by
  have hz : (0 : Nat) < mz_B := by decide
  refine ⟨h'.1, h'.2.1, fun j hj => ?_, fun j => mz_gp_cl hz (mz_cl_t (by decide)) (fun j => mz_gp_cl hv hc h.2.2.2)⟩
  rw [mz_gp hz] at hj ⊢
  by_cases q1 : j = i + 1
  · rw [if_pos q1] at hj
    exact absurd hj (by decide)
  · rw [if_neg q1, mz_gp hv] at hj ⊢
    by_cases q : j = i
    · subst q
      rw [if_pos rfl]
      exact h'.2.2 _ List.mem_cons_self
    · rw [if_neg q] at hj ⊢
      refine h'.2.2 (j, mz_c ad ao ρ (mz_g L j)) (List.mem_cons_of_mem _ (List.mem_filter.mpr ⟨mz_lv_in h hj, ?_⟩))
      have e1 : (j == i) = false := by simpa using q
      have e2 : (j == i + 1) = false := by simpa using q1
      show (!(j == i) && (!(j == i + 1) && !(j + 1 == i && (mz_c ad ao ρ (mz_g L j)).category == 2))) = true
      rw [e1, e2]
      by_cases q2 : j + 1 = i
      · have := mz_c2_cat (ad := ad) (ao := ao) (ρ := ρ) (mz_b4_ok h4 q2)
        simp [this]
      · simp [q2]
theorem mz_lstore_n {j : Fin 4} {w : Nat} (C : mz_Cx X cc own Ts F) (hd : decode cc pc = .ok (.lstore_n j, 1)) (hw : mz_L w = true) (hv : w < mz_B) (h4 : mz_b4 L j.val = true) (hn4 : j.val + 1 < mz_nL X) (k : mz_G X (pc + 1) (mz_p (mz_p L j.val w) (j.val + 1) 0) st M K n top nc ns) : mz_G X pc L (w :: st) M K n top nc ns := by
  obtain ⟨p, l, e, R, s, m, args, below, meth, c, nL, D, cA, ao, ρ, A, n0, ad0, Q⟩ := X
  obtain ⟨hx, hb, -⟩ := C
  intro ad ls H locs hn had hZ hl hst
  rw [List.map_cons, mz_cL hw]
  refine lv_lstore_n hx hb hd rfl (mz_lv_has hl) hn4 rfl fun ls' h' => ?_
  rw [← mz_cL (ad := ad) (ao := ao) hw] at h'
  exact k ad ls' H locs hn had hZ (mz_store2 hl hv (mz_cl_L hw) h4 h') (List.forall_mem_cons.mp hst).2
theorem mz_dstore {i : Nat} (C : mz_Cx X cc own Ts F) (hd : decode cc pc = .ok (.dstore i, 2)) (h4 : mz_b4 L i = true) (hn4 : i + 1 < mz_nL X) (k : mz_G X (pc + 2) (mz_p (mz_p L i 8) (i + 1) 0) st M K n top nc ns) : mz_G X pc L (8 :: st) M K n top nc ns := by
  obtain ⟨p, l, e, R, s, m, args, below, meth, c, nL, D, cA, ao, ρ, A, n0, ad0, Q⟩ := X
  obtain ⟨hx, hb, -⟩ := C
  intro ad ls H locs hn had hZ hl hst
  have hs := List.forall_mem_cons.mp hst
  rw [List.map_cons]
  have e1 : mz_c ad ao ρ 8 = .double 0 := by simp [mz_c]
  rw [e1]
  refine lv_dstore hx hb hd (mz_lv_has hl) hn4 rfl fun ls' h' => ?_
  rw [← e1] at h'
  exact k ad ls' H locs hn had hZ (mz_store2 hl (by decide) hs.1 h4 h') hs.2
theorem mz_iinc {i w : Nat} {z : Int} (C : mz_Cx X cc own Ts F) (hd : decode cc pc = .ok (.iinc i z, 3)) (hw : mz_I (mz_g L i) = true) (hw2 : mz_I w = true) (he : mz_i (mz_rho X) w = mz_i (mz_rho X) (mz_g L i) + Int32.ofInt z) (hv : w < mz_B) (h4 : mz_b4 L i = true) (hn4 : i < mz_nL X)
    (k : mz_G X (pc + 3) (mz_p L i w) st M K n top nc ns) : mz_G X pc L st M K n top nc ns := by
  obtain ⟨p, l, e, R, s, m, args, below, meth, c, nL, D, cA, ao, ρ, A, n0, ad0, Q⟩ := X
  change mz_i ρ w = mz_i ρ (mz_g L i) + Int32.ofInt z at he
  obtain ⟨hx, hb, -⟩ := C
  intro ad ls H locs hn had hZ hl hst
  have h1 := mz_lv_in hl (mz_df_I hw)
  rw [mz_cI hw] at h1
  obtain ⟨q, hq⟩ := List.mem_iff_getElem?.mp h1
  refine lv_iinc hx hb hd (mz_lv_has hl) hq rfl hn4 rfl fun ls' h' => ?_
  rw [← he, ← mz_cI (ad := ad) (ao := ao) hw2] at h'
  exact k ad ls' H locs hn had hZ (mz_store1 hl hv (mz_cl_I hw2) h4 h') hst
/-! numbers -/
theorem mz_bin {f : Int32 → Int32 → Int32} {x y w : Nat} (hx : mz_I x = true) (hy : mz_I y = true) (hw : mz_I w = true)
    (he : mz_i (X.2.2.2.2.2.2.2.2.2.2.2.2.2.2.1) w = f (mz_i (X.2.2.2.2.2.2.2.2.2.2.2.2.2.2.1) x) (mz_i (X.2.2.2.2.2.2.2.2.2.2.2.2.2.2.1) y))
    (row : ∀ (ls : Array Slot) (H : Heap) (locs : List Loc) (a b : Int32) (rest : List Value), (∀ v, v = f a b → W X.1 X.2.1 X.2.2.1 X.2.2.2.1 X.2.2.2.2.1 X.2.2.2.2.2.1 X.2.2.2.2.2.2.1 X.2.2.2.2.2.2.2.1 X.2.2.2.2.2.2.2.2.1 X.2.2.2.2.2.2.2.2.2.1 H locs nc ns X.2.2.2.2.2.2.2.2.2.2.2.2.2.2.2.2.2.2 (F0 X.2.2.2.2.2.1 (pc + 1) ls (.int v :: rest))) → mz_i (X.2.2.2.2.2.2.2.2.2.2.2.2.2.2.1) y = b →
      W X.1 X.2.1 X.2.2.1 X.2.2.2.1 X.2.2.2.2.1 X.2.2.2.2.2.1 X.2.2.2.2.2.2.1 X.2.2.2.2.2.2.2.1 X.2.2.2.2.2.2.2.2.1 X.2.2.2.2.2.2.2.2.2.1 H locs nc ns X.2.2.2.2.2.2.2.2.2.2.2.2.2.2.2.2.2.2 (F0 X.2.2.2.2.2.1 pc ls (.int b :: .int a :: rest)))
    (k : mz_G X (pc + 1) L (w :: st) M K n top nc ns) : mz_G X pc L (y :: x :: st) M K n top nc ns := by
  obtain ⟨p, l, e, R, s, m, args, below, meth, c, nL, D, cA, ao, ρ, A, n0, ad0, Q⟩ := X
  intro ad ls H locs hn had hZ hl hst
  rw [List.map_cons, List.map_cons, mz_cI hx, mz_cI hy]
  refine row ls H locs _ _ _ (fun v hv => ?_) rfl
  have q := k ad ls H locs hn had hZ hl (mz_hd (mz_cl_I hw) (List.forall_mem_cons.mp (List.forall_mem_cons.mp hst).2).2)
  rw [List.map_cons, mz_cI hw, he, ← hv] at q
  exact q
end MZ2
end
section
theorem mz_and31 : ∀ k : Fin 32, nI k.val &&& 31 = nI k.val := by decide +kernel
section MZ3
variable {X : mz_Xt} {cc : ByteArray} {own : String} {Ts : List Jvm.Cond} {F : Nat → Nat × Nat} {pc L M K n top nc ns : Nat} {st : List Nat}
/-- the variables' values -/
theorem mz_iadd {x y w : Nat} (C : mz_Cx X cc own Ts F) (hd : decode cc pc = .ok (.iadd, 1)) (hx : mz_I x = true) (hy : mz_I y = true) (hw : mz_I w = true) (he : mz_i (mz_rho X) w = mz_i (mz_rho X) x + mz_i (mz_rho X) y)
    (k : mz_G X (pc + 1) L (w :: st) M K n top nc ns) : mz_G X pc L (y :: x :: st) M K n top nc ns := by
  obtain ⟨p, l, e, R, s, m, args, below, meth, c, nL, D, cA, ao, ρ, A, n0, ad0, Q⟩ := X
  exact mz_bin (f := fun a b => a + b) hx hy hw he (fun ls H locs a b rest kk _ => lv_iadd C.1 C.2.1 hd (kk _ rfl)) k
theorem mz_isub {x y w : Nat} (C : mz_Cx X cc own Ts F) (hd : decode cc pc = .ok (.isub, 1)) (hx : mz_I x = true) (hy : mz_I y = true) (hw : mz_I w = true) (he : mz_i (mz_rho X) w = mz_i (mz_rho X) x - mz_i (mz_rho X) y)
    (k : mz_G X (pc + 1) L (w :: st) M K n top nc ns) : mz_G X pc L (y :: x :: st) M K n top nc ns := by
  obtain ⟨p, l, e, R, s, m, args, below, meth, c, nL, D, cA, ao, ρ, A, n0, ad0, Q⟩ := X
  exact mz_bin (f := fun a b => a - b) hx hy hw he (fun ls H locs a b rest kk _ => lv_isub C.1 C.2.1 hd (kk _ rfl)) k
theorem mz_imul {x y w : Nat} (C : mz_Cx X cc own Ts F) (hd : decode cc pc = .ok (.imul, 1)) (hx : mz_I x = true) (hy : mz_I y = true) (hw : mz_I w = true) (he : mz_i (mz_rho X) w = mz_i (mz_rho X) x * mz_i (mz_rho X) y)
    (k : mz_G X (pc + 1) L (w :: st) M K n top nc ns) : mz_G X pc L (y :: x :: st) M K n top nc ns := by
  obtain ⟨p, l, e, R, s, m, args, below, meth, c, nL, D, cA, ao, ρ, A, n0, ad0, Q⟩ := X
  exact mz_bin (f := fun a b => a * b) hx hy hw he (fun ls H locs a b rest kk _ => lv_imul C.1 C.2.1 hd (kk _ rfl)) k
theorem mz_idiv {x y w : Nat} (C : mz_Cx X cc own Ts F) (hd : decode cc pc = .ok (.idiv, 1)) (hx : mz_I x = true) (hy : mz_I y = true) (h0 : ¬ mz_i (mz_rho X) y = 0) (hw : mz_I w = true) (he : mz_i (mz_rho X) w = mz_i (mz_rho X) x / mz_i (mz_rho X) y)
    (k : mz_G X (pc + 1) L (w :: st) M K n top nc ns) : mz_G X pc L (y :: x :: st) M K n top nc ns := by
  obtain ⟨p, l, e, R, s, m, args, below, meth, c, nL, D, cA, ao, ρ, A, n0, ad0, Q⟩ := X
  exact mz_bin (f := fun a b => a / b) hx hy hw he (fun ls H locs a b rest kk hb => lv_idiv C.1 C.2.1 hd (by rw [← hb]; exact h0) (kk _ rfl)) k
theorem mz_irem {x y w : Nat} (C : mz_Cx X cc own Ts F) (hd : decode cc pc = .ok (.irem, 1)) (hx : mz_I x = true) (hy : mz_I y = true) (h0 : ¬ mz_i (mz_rho X) y = 0) (hw : mz_I w = true) (he : mz_i (mz_rho X) w = mz_i (mz_rho X) x - mz_i (mz_rho X) x / mz_i (mz_rho X) y * mz_i (mz_rho X) y)
    (k : mz_G X (pc + 1) L (w :: st) M K n top nc ns) : mz_G X pc L (y :: x :: st) M K n top nc ns := by
  obtain ⟨p, l, e, R, s, m, args, below, meth, c, nL, D, cA, ao, ρ, A, n0, ad0, Q⟩ := X
  exact mz_bin (f := fun a b => a - a / b * b) hx hy hw he (fun ls H locs a b rest kk hb => lv_irem C.1 C.2.1 hd (by rw [← hb]; exact h0) (kk _ rfl)) k
theorem mz_iand {x y w : Nat} (C : mz_Cx X cc own Ts F) (hd : decode cc pc = .ok (.iand, 1)) (hx : mz_I x = true) (hy : mz_I y = true) (hw : mz_I w = true) (he : mz_i (mz_rho X) w = (mz_i (mz_rho X) x &&& mz_i (mz_rho X) y))
    (k : mz_G X (pc + 1) L (w :: st) M K n top nc ns) : mz_G X pc L (y :: x :: st) M K n top nc ns := by
  obtain ⟨p, l, e, R, s, m, args, below, meth, c, nL, D, cA, ao, ρ, A, n0, ad0, Q⟩ := X
  exact mz_bin (f := fun a b => a &&& b) hx hy hw he (fun ls H locs a b rest kk _ => lv_iand C.1 C.2.1 hd (kk _ rfl)) k
theorem mz_ior {x y w : Nat} (C : mz_Cx X cc own Ts F) (hd : decode cc pc = .ok (.ior, 1)) (hx : mz_I x = true) (hy : mz_I y = true) (hw : mz_I w = true) (he : mz_i (mz_rho X) w = (mz_i (mz_rho X) x ||| mz_i (mz_rho X) y))
    (k : mz_G X (pc + 1) L (w :: st) M K n top nc ns) : mz_G X pc L (y :: x :: st) M K n top nc ns := by
  obtain ⟨p, l, e, R, s, m, args, below, meth, c, nL, D, cA, ao, ρ, A, n0, ad0, Q⟩ := X
  exact mz_bin (f := fun a b => a ||| b) hx hy hw he (fun ls H locs a b rest kk _ => lv_ior C.1 C.2.1 hd (kk _ rfl)) k
theorem mz_ishl {x y w : Nat} (C : mz_Cx X cc own Ts F) (hd : decode cc pc = .ok (.ishl, 1)) (hx : mz_I x = true) (hy : mz_I y = true) (hy2 : mz_i (mz_rho X) y &&& 31 = mz_i (mz_rho X) y) (hw : mz_I w = true) (he : mz_i (mz_rho X) w = mz_i (mz_rho X) x <<< mz_i (mz_rho X) y)
    (k : mz_G X (pc + 1) L (w :: st) M K n top nc ns) : mz_G X pc L (y :: x :: st) M K n top nc ns := by
  obtain ⟨p, l, e, R, s, m, args, below, meth, c, nL, D, cA, ao, ρ, A, n0, ad0, Q⟩ := X
  exact mz_bin (f := fun a b => a <<< b) hx hy hw he (fun ls H locs a b rest kk hb => lv_ishl C.1 C.2.1 hd (kk _ (by rw [← hb]; exact congrArg (fun z => a <<< z) hy2))) k
theorem mz_ishr {x y w : Nat} (C : mz_Cx X cc own Ts F) (hd : decode cc pc = .ok (.ishr, 1)) (hx : mz_I x = true) (hy : mz_I y = true) (hy2 : mz_i (mz_rho X) y &&& 31 = mz_i (mz_rho X) y) (hw : mz_I w = true) (he : mz_i (mz_rho X) w = mz_i (mz_rho X) x >>> mz_i (mz_rho X) y)
    (k : mz_G X (pc + 1) L (w :: st) M K n top nc ns) : mz_G X pc L (y :: x :: st) M K n top nc ns := by
  obtain ⟨p, l, e, R, s, m, args, below, meth, c, nL, D, cA, ao, ρ, A, n0, ad0, Q⟩ := X
  exact mz_bin (f := fun a b => a >>> b) hx hy hw he (fun ls H locs a b rest kk hb => lv_ishr C.1 C.2.1 hd (kk _ (by rw [← hb]; exact congrArg (fun z => a >>> z) hy2))) k
theorem mz_ineg {x w : Nat} (C : mz_Cx X cc own Ts F) (hd : decode cc pc = .ok (.ineg, 1)) (hx : mz_I x = true) (hw : mz_I w = true) (he : mz_i (mz_rho X) w = -mz_i (mz_rho X) x)
    (k : mz_G X (pc + 1) L (w :: st) M K n top nc ns) : mz_G X pc L (x :: st) M K n top nc ns := by
  obtain ⟨p, l, e, R, s, m, args, below, meth, c, nL, D, cA, ao, ρ, A, n0, ad0, Q⟩ := X
  dsimp only [mz_rho] at he
  intro ad ls H locs hn had hZ hl hst
  rw [List.map_cons, mz_cI hx]
  have q := k ad ls H locs hn had hZ hl (mz_hd (mz_cl_I hw) (List.forall_mem_cons.mp hst).2)
  rw [List.map_cons, mz_cI hw, he] at q
  exact lv_ineg C.1 C.2.1 hd q
theorem mz_i2c_ {x w : Nat} (C : mz_Cx X cc own Ts F) (hd : decode cc pc = .ok (.i2c, 1)) (hx : mz_I x = true) (hw : mz_I w = true) (he : mz_i (mz_rho X) w = ((mz_i (mz_rho X) x).toUInt32 % 65536).toInt32)
    (k : mz_G X (pc + 1) L (w :: st) M K n top nc ns) : mz_G X pc L (x :: st) M K n top nc ns := by
  obtain ⟨p, l, e, R, s, m, args, below, meth, c, nL, D, cA, ao, ρ, A, n0, ad0, Q⟩ := X
  dsimp only [mz_rho] at he
  intro ad ls H locs hn had hZ hl hst
  rw [List.map_cons, mz_cI hx]
  have q := k ad ls H locs hn had hZ hl (mz_hd (mz_cl_I hw) (List.forall_mem_cons.mp hst).2)
  rw [List.map_cons, mz_cI hw, he] at q
  exact lv_i2c C.1 C.2.1 hd rfl q
theorem mz_i2b_ {x w : Nat} (C : mz_Cx X cc own Ts F) (hd : decode cc pc = .ok (.i2b, 1)) (hx : mz_I x = true) (hw : mz_I w = true) (he : mz_i (mz_rho X) w = (mz_i (mz_rho X) x).toInt8.toInt32)
    (k : mz_G X (pc + 1) L (w :: st) M K n top nc ns) : mz_G X pc L (x :: st) M K n top nc ns := by
  obtain ⟨p, l, e, R, s, m, args, below, meth, c, nL, D, cA, ao, ρ, A, n0, ad0, Q⟩ := X
  dsimp only [mz_rho] at he
  intro ad ls H locs hn had hZ hl hst
  rw [List.map_cons, mz_cI hx]
  have q := k ad ls H locs hn had hZ hl (mz_hd (mz_cl_I hw) (List.forall_mem_cons.mp hst).2)
  rw [List.map_cons, mz_cI hw, he] at q
  exact lv_i2b C.1 C.2.1 hd rfl q
theorem mz_i2l_ {x w : Nat} (C : mz_Cx X cc own Ts F) (hd : decode cc pc = .ok (.i2l, 1)) (hx : mz_I x = true) (hw : mz_L w = true) (he : mz_l (mz_rho X) w = (mz_i (mz_rho X) x).toInt64)
    (k : mz_G X (pc + 1) L (w :: st) M K n top nc ns) : mz_G X pc L (x :: st) M K n top nc ns := by
  obtain ⟨p, l, e, R, s, m, args, below, meth, c, nL, D, cA, ao, ρ, A, n0, ad0, Q⟩ := X
  dsimp only [mz_rho] at he
  intro ad ls H locs hn had hZ hl hst
  rw [List.map_cons, mz_cI hx]
  have q := k ad ls H locs hn had hZ hl (mz_hd (mz_cl_L hw) (List.forall_mem_cons.mp hst).2)
  rw [List.map_cons, mz_cL hw, he] at q
  exact lv_i2l C.1 C.2.1 hd rfl q
theorem mz_ladd_ {x y w : Nat} (C : mz_Cx X cc own Ts F) (hd : decode cc pc = .ok (.ladd, 1)) (hx : mz_L x = true) (hy : mz_L y = true) (hw : mz_L w = true) (he : mz_l (mz_rho X) w = mz_l (mz_rho X) x + mz_l (mz_rho X) y)
    (k : mz_G X (pc + 1) L (w :: st) M K n top nc ns) : mz_G X pc L (y :: x :: st) M K n top nc ns := by
  obtain ⟨p, l, e, R, s, m, args, below, meth, c, nL, D, cA, ao, ρ, A, n0, ad0, Q⟩ := X
  dsimp only [mz_rho] at he
  intro ad ls H locs hn had hZ hl hst
  rw [List.map_cons, List.map_cons, mz_cL hx, mz_cL hy]
  have q := k ad ls H locs hn had hZ hl (mz_hd (mz_cl_L hw) (List.forall_mem_cons.mp (List.forall_mem_cons.mp hst).2).2)
  rw [List.map_cons, mz_cL hw, he] at q
  exact lv_ladd C.1 C.2.1 hd q
theorem mz_lcmp_ {x : Nat} (C : mz_Cx X cc own Ts F) (hd : decode cc pc = .ok (.lcmp, 1)) (hx : mz_L x = true)
    (k : mz_G X (pc + 1) L (mz_n 0 :: st) M K n top nc ns) : mz_G X pc L (x :: x :: st) M K n top nc ns := by
  obtain ⟨p, l, e, R, s, m, args, below, meth, c, nL, D, cA, ao, ρ, A, n0, ad0, Q⟩ := X
  intro ad ls H locs hn had hZ hl hst
  rw [List.map_cons, List.map_cons, mz_cL hx]
  have q := k ad ls H locs hn had hZ hl (mz_hd (mz_cl_I (mz_nw (ρ := ρ) 0).1) (List.forall_mem_cons.mp (List.forall_mem_cons.mp hst).2).2)
  rw [List.map_cons, mz_cI (mz_nw (ρ := ρ) 0).1, (mz_nw (ρ := ρ) 0).2] at q
  refine W.lcmp C.1 C.2.1 hd ?_
  have e1 : lg_cmp (mz_l ρ x) (mz_l ρ x) = nI 0 := by
    have h : ¬ mz_l ρ x < mz_l ρ x := Int64.lt_irrefl
    simp [lg_cmp, h]; rfl
  rw [e1]
  exact q
/-! branches -/
def mz_holds (c : Jvm.ClassFile.Cond) (a b : Int32) : Prop := match c with
  | .eq => a = b
  | .ne => ¬ a = b
  | .lt => a < b
  | .ge => ¬ a < b
  | .gt => b < a
  | .le => ¬ b < a
noncomputable def mz_cmp {α : Type} (F : Nat → Nat × Nat) (c : Jvm.ClassFile.Cond) (x y : Nat) (k : Bool → Option α) : Option α := match c with
  | .eq => mz_eq F x y k
  | .ne => mz_eq F x y fun b => k (!b)
  | .lt => mz_lt F x y k
  | .ge => mz_lt F x y fun b => k (!b)
  | .gt => mz_lt F y x k
  | .le => mz_lt F y x fun b => k (!b)
theorem mz_cmp_ok {α : Type} {ρ : Nat → Int32} (hF : mz_F F ρ) {cd : Jvm.ClassFile.Cond} {x y : Nat} {k : Bool → Option α} {r : α} (h : mz_cmp F cd x y k = some r) :
    mz_I x = true ∧ mz_I y = true ∧ ∃ b, k b = some r ∧ (b = true ↔ mz_holds cd (mz_i ρ x) (mz_i ρ y)) := by
  have nb : ∀ {P : Prop} {b : Bool}, (b = true ↔ P) → ((!b) = true ↔ ¬ P) := fun {P b} hb => by
    cases b with
    | true => exact ⟨fun z => (by cases z), fun z => absurd (hb.mp rfl) z⟩
    | false => exact ⟨fun _ z => (by cases hb.mpr z), fun _ => rfl⟩
  cases cd with
  | eq => exact mz_eq_ok hF h
  | ne =>
    have h : mz_eq F x y (fun b => k (!b)) = some r := h
    obtain ⟨a1, a2, b, hb, hi⟩ := mz_eq_ok (k := fun b => k (!b)) hF h
    have hi2 : (!b) = true ↔ ¬ (mz_i ρ x = mz_i ρ y) := nb hi
    exact ⟨a1, a2, !b, hb, hi2⟩
  | lt => exact mz_lt_ok hF h
  | ge =>
    have h : mz_lt F x y (fun b => k (!b)) = some r := h
    obtain ⟨a1, a2, b, hb, hi⟩ := mz_lt_ok (k := fun b => k (!b)) hF h
    have hi2 : (!b) = true ↔ ¬ (mz_i ρ x < mz_i ρ y) := nb hi
    exact ⟨a1, a2, !b, hb, hi2⟩
  | gt => obtain ⟨a1, a2, b, hb, hi⟩ := mz_lt_ok hF h; exact ⟨a2, a1, b, hb, hi⟩
  | le =>
    have h : mz_lt F y x (fun b => k (!b)) = some r := h
    obtain ⟨a1, a2, b, hb, hi⟩ := mz_lt_ok (k := fun b => k (!b)) hF h
    have hi2 : (!b) = true ↔ ¬ (mz_i ρ y < mz_i ρ x) := nb hi
    exact ⟨a2, a1, !b, hb, hi2⟩
theorem mz_ge_iff {a b : Int32} : a ≥ b ↔ ¬ a < b := by
  have h1 : a ≥ b ↔ mz_b b ≤ mz_b a := mz_b_le
  rw [h1, mz_b_lt]; omega
theorem mz_le_iff {a b : Int32} : a ≤ b ↔ ¬ b < a := by rw [mz_b_le, mz_b_lt]; omega
theorem mz_icmp {cd : Jvm.ClassFile.Cond} {x y tgt : Nat} {off : Int} {b : Bool} (C : mz_Cx X cc own Ts F) (hd : decode cc pc = .ok (.if_icmp cd off, 3)) (ht : (pc : Int) + off = (tgt : Int)) (hx : mz_I x = true) (hy : mz_I y = true)
    (hb : b = true ↔ mz_holds cd (mz_i (mz_rho X) x) (mz_i (mz_rho X) y)) (k : mz_G X (bif b then tgt else pc + 3) L st M K n top nc ns) : mz_G X pc L (y :: x :: st) M K n top nc ns := by
  obtain ⟨p, l, e, R, s, m, args, below, meth, c, nL, D, cA, ao, ρ, A, n0, ad0, Q⟩ := X
  intro ad ls H locs hn had hZ hl hst
  rw [List.map_cons, List.map_cons, mz_cI hx, mz_cI hy]
  have q := k ad ls H locs hn had hZ hl (List.forall_mem_cons.mp (List.forall_mem_cons.mp hst).2).2
  have kt : mz_holds cd (mz_i ρ x) (mz_i ρ y) → W p l e R s m args below meth c H locs nc ns Q (F0 m tgt ls (st.map (mz_c ad ao ρ))) := fun z => by
    have e1 : b = true := hb.mpr z
    rw [e1] at q; exact q
  have kf : ¬ mz_holds cd (mz_i ρ x) (mz_i ρ y) → W p l e R s m args below meth c H locs nc ns Q (F0 m (pc + 3) ls (st.map (mz_c ad ao ρ))) := fun z => by
    have e1 : b = false := by
      cases b with
      | false => rfl
      | true => exact absurd (hb.mp rfl) z
    rw [e1] at q; exact q
  cases cd with
  | eq => exact lv_icmp_eq C.1 C.2.1 hd ht kt kf
  | ne => exact lv_icmp_ne C.1 C.2.1 hd ht kt (fun z => kf (fun u => u z))
  | lt => exact lv_icmp_lt C.1 C.2.1 hd ht kt kf
  | ge => exact lv_icmp_ge C.1 C.2.1 hd ht (fun z => kt (mz_ge_iff.mp z)) (fun z => kf (fun u => z (mz_ge_iff.mpr u)))
  | gt => exact lv_icmp_gt C.1 C.2.1 hd ht (fun z => kt z) (fun z => kf z)
  | le => exact lv_icmp_le C.1 C.2.1 hd ht (fun z => kt (mz_le_iff.mp z)) (fun z => kf (fun u => z (mz_le_iff.mpr u)))
theorem mz_ifc {cd : Jvm.ClassFile.Cond} {x tgt : Nat} {off : Int} {b : Bool} (C : mz_Cx X cc own Ts F) (hd : decode cc pc = .ok (.ifCond cd off, 3)) (ht : (pc : Int) + off = (tgt : Int)) (hx : mz_I x = true)
    (hb : b = true ↔ mz_holds cd (mz_i (mz_rho X) x) (mz_i (mz_rho X) (mz_n 0))) (k : mz_G X (bif b then tgt else pc + 3) L st M K n top nc ns) : mz_G X pc L (x :: st) M K n top nc ns := by
  obtain ⟨p, l, e, R, s, m, args, below, meth, c, nL, D, cA, ao, ρ, A, n0, ad0, Q⟩ := X
  intro ad ls H locs hn had hZ hl hst
  rw [List.map_cons, mz_cI hx]
  have q := k ad ls H locs hn had hZ hl (List.forall_mem_cons.mp hst).2
  have e0 : mz_i ρ (mz_n 0) = 0 := (mz_nw (ρ := ρ) 0).2
  have hb : b = true ↔ mz_holds cd (mz_i ρ x) 0 := by rw [← e0]; exact hb
  have kt : mz_holds cd (mz_i ρ x) 0 → W p l e R s m args below meth c H locs nc ns Q (F0 m tgt ls (st.map (mz_c ad ao ρ))) := fun z => by
    have e1 : b = true := hb.mpr z
    rw [e1] at q; exact q
  have kf : ¬ mz_holds cd (mz_i ρ x) 0 → W p l e R s m args below meth c H locs nc ns Q (F0 m (pc + 3) ls (st.map (mz_c ad ao ρ))) := fun z => by
    have e1 : b = false := by
      cases b with
      | false => rfl
      | true => exact absurd (hb.mp rfl) z
    rw [e1] at q; exact q
  cases cd with
  | eq => exact lv_if_eq C.1 C.2.1 hd ht kt kf
  | ne => exact lv_if_ne C.1 C.2.1 hd ht kt (fun z => kf (fun u => u z))
  | lt => exact lv_if_lt C.1 C.2.1 hd ht kt kf
  | ge => exact lv_if_ge C.1 C.2.1 hd ht (fun z => kt (mz_ge_iff.mp z)) (fun z => kf (fun u => z (mz_ge_iff.mpr u)))
  | gt => exact lv_if_gt C.1 C.2.1 hd ht (fun z => kt z) (fun z => kf z)
  | le => exact lv_if_le C.1 C.2.1 hd ht (fun z => kt (mz_le_iff.mp z)) (fun z => kf (fun u => z (mz_le_iff.mpr u)))
end MZ3
end
section
section MZ4
variable {X : mz_Xt} {cc : ByteArray} {own : String} {Ts : List Jvm.Cond} {F : Nat → Nat × Nat} {pc L M K n top nc ns : Nat} {st : List Nat}
theorem mz_cRq {ad ao : Nat → Nat} {ρ : Nat → Int32} {w : Nat} (h : mz_R w = true) : mz_c ad ao ρ w = mz_r ad ao (mz_q w) := mz_cR h
def mz_ro (ad ao : Nat → Nat) (q : Nat) : Option Nat := if q = 0 then none else if q ≤ 1048576 then some (ad (q - 1)) else some (ao (q - 1048577))
theorem mz_r_rf {ad ao : Nat → Nat} (q : Nat) : mz_r ad ao q = va_rf (mz_ro ad ao q) := by
  unfold mz_r mz_ro
  by_cases h0 : q = 0
  · rw [if_pos h0, if_pos h0]; rfl
  · rw [if_neg h0, if_neg h0]
    by_cases h1 : q ≤ 1048576
    · rw [if_pos h1, if_pos h1]; rfl
    · rw [if_neg h1, if_neg h1]; rfl
theorem mz_r_new {ad ao : Nat → Nat} {q : Nat} (h0 : q ≠ 0) (h1 : q ≤ 1048576) : mz_r ad ao q = .ref (ad (q - 1)) := by unfold mz_r; rw [if_neg h0, if_pos h1]
theorem mz_r_old {ad ao : Nat → Nat} {q : Nat} (h1 : ¬ q ≤ 1048576) : mz_r ad ao q = .ref (ao (q - 1048577)) := by unfold mz_r; rw [if_neg (by omega), if_neg h1]
theorem mz_goto {off : Int} {tgt : Nat} (C : mz_Cx X cc own Ts F) (hd : decode cc pc = .ok (.goto off, 3)) (ht : (pc : Int) + off = (tgt : Int)) (k : mz_G X tgt L st M K n top nc ns) : mz_G X pc L st M K n top nc ns := by
  obtain ⟨p, l, e, R, s, m, args, below, meth, c, nL, D, cA, ao, ρ, A, n0, ad0, Q⟩ := X
  intro ad ls H locs hn had hZ hl hst
  exact lv_goto C.1 C.2.1 hd ht (k ad ls H locs hn had hZ hl hst)
theorem mz_ifnull {off : Int} {x tgt : Nat} (C : mz_Cx X cc own Ts F) (hd : decode cc pc = .ok (.ifnull off, 3)) (ht : (pc : Int) + off = (tgt : Int)) (hx : mz_R x = true) (k : mz_G X (bif Nat.beq (mz_q x) 0 then tgt else pc + 3) L st M K n top nc ns) : mz_G X pc L (x :: st) M K n top nc ns := by
  obtain ⟨p, l, e, R, s, m, args, below, meth, c, nL, D, cA, ao, ρ, A, n0, ad0, Q⟩ := X
  intro ad ls H locs hn had hZ hl hst
  have q := k ad ls H locs hn had hZ hl (List.forall_mem_cons.mp hst).2
  rw [List.map_cons, mz_cRq hx]
  cases h0 : Nat.beq (mz_q x) 0 with
  | true =>
    rw [h0] at q
    rw [show mz_r ad ao (mz_q x) = .null by unfold mz_r; rw [if_pos (mz_bq h0)]]
    exact lv_ifnullN C.1 C.2.1 hd ht q
  | false =>
    rw [h0] at q
    rcases mz_r_or (ad := ad) (ao := ao) (mz_q x) with z | ⟨a, z⟩
    · unfold mz_r at z
      rw [if_neg (mz_bn h0)] at z
      split at z <;> cases z
    · rw [z]; exact lv_ifnull C.1 C.2.1 hd q
theorem mz_ifnonnull {off : Int} {x tgt : Nat} (C : mz_Cx X cc own Ts F) (hd : decode cc pc = .ok (.ifnonnull off, 3)) (ht : (pc : Int) + off = (tgt : Int)) (hx : mz_R x = true) (k : mz_G X (bif Nat.beq (mz_q x) 0 then pc + 3 else tgt) L st M K n top nc ns) : mz_G X pc L (x :: st) M K n top nc ns := by
  obtain ⟨p, l, e, R, s, m, args, below, meth, c, nL, D, cA, ao, ρ, A, n0, ad0, Q⟩ := X
  intro ad ls H locs hn had hZ hl hst
  have q := k ad ls H locs hn had hZ hl (List.forall_mem_cons.mp hst).2
  rw [List.map_cons, mz_cRq hx]
  cases h0 : Nat.beq (mz_q x) 0 with
  | true =>
    rw [h0] at q
    rw [show mz_r ad ao (mz_q x) = .null by unfold mz_r; rw [if_pos (mz_bq h0)]]
    exact lv_ifnonnullN C.1 C.2.1 hd q
  | false =>
    rw [h0] at q
    rcases mz_r_or (ad := ad) (ao := ao) (mz_q x) with z | ⟨a, z⟩
    · unfold mz_r at z
      rw [if_neg (mz_bn h0)] at z
      split at z <;> cases z
    · rw [z]; exact lv_ifnonnull C.1 C.2.1 hd ht q
/-- whether two references are one -/
noncomputable def mz_same {α : Type} (n x y : Nat) (k : Bool → Option α) : Option α :=
  bif mz_R x then bif mz_R y then bif Nat.beq (mz_q x) (mz_q y) then k true else bif Nat.beq (mz_q x) 0 then k false else bif Nat.beq (mz_q y) 0 then k false
    else bif Nat.ble (mz_q x) n then bif Nat.ble (mz_q y) n then bif Nat.ble n 1048576 then k false else none else none else none else none else none
theorem mz_same_ok {α : Type} {x y : Nat} {k : Bool → Option α} {r : α} (h : mz_same n x y k = some r) : mz_R x = true ∧ mz_R y = true ∧
    ∃ b, k b = some r ∧ ∀ (ad ao : Nat → Nat), (∀ i j, i < n → j < n → ad i = ad j → i = j) → (b = true ↔ mz_ro ad ao (mz_q x) = mz_ro ad ao (mz_q y)) := by
  obtain ⟨h1, h⟩ := mz_ift h
  obtain ⟨h2, h⟩ := mz_ift h
  refine ⟨h1, h2, ?_⟩
  rcases mz_if h with ⟨h3, h⟩ | ⟨h3, h⟩
  · exact ⟨true, h, fun ad ao _ => ⟨fun _ => by rw [mz_bq h3], fun _ => rfl⟩⟩
  · have n3 := mz_bn h3
    rcases mz_if h with ⟨h4, h⟩ | ⟨h4, h⟩
    · have q4 := mz_bq h4
      refine ⟨false, h, fun ad ao _ => ⟨fun z => (by cases z), fun z => ?_⟩⟩
      unfold mz_ro at z
      rw [if_pos q4, if_neg (by omega)] at z
      split at z <;> cases z
    · rcases mz_if h with ⟨h5, h⟩ | ⟨h5, h⟩
      · have q5 := mz_bq h5
        refine ⟨false, h, fun ad ao _ => ⟨fun z => (by cases z), fun z => ?_⟩⟩
        unfold mz_ro at z
        rw [if_pos q5, if_neg (by omega)] at z
        split at z <;> cases z
      · obtain ⟨h6, h⟩ := mz_ift h
        obtain ⟨h7, h⟩ := mz_ift h
        obtain ⟨h8, h⟩ := mz_ift h
        have n4 := mz_bn h4
        have n5 := mz_bn h5
        have q6 := mz_bl h6
        have q7 := mz_bl h7
        have q8 := mz_bl h8
        refine ⟨false, h, fun ad ao hi => ⟨fun z => (by cases z), fun z => ?_⟩⟩
        unfold mz_ro at z
        rw [if_neg n4, if_neg n5, if_pos (by omega), if_pos (by omega)] at z
        have := hi _ _ (by omega) (by omega) (Option.some.inj z)
        omega
theorem mz_inj {A : Nat → Prop} {cA : Nat → ClassId} {ad ao : Nat → Nat} {ρ : Nat → Int32} (hD : va_D A (mz_w cA ad ao ρ M K n)) : ∀ i j, i < n → j < n → ad i = ad j → i = j :=
  fun i j hi hj h => hD.1 i j _ _ (mz_w_at hi) (mz_w_at hj) h
theorem mz_acmp {cd : Jvm.ClassFile.ACond} {off : Int} {x y tgt : Nat} {b : Bool} (C : mz_Cx X cc own Ts F) (hd : decode cc pc = .ok (.if_acmp cd off, 3)) (ht : (pc : Int) + off = (tgt : Int)) (hx : mz_R x = true) (hy : mz_R y = true)
    (hb : ∀ (ad ao : Nat → Nat), (∀ i j, i < n → j < n → ad i = ad j → i = j) → (b = true ↔ mz_ro ad ao (mz_q x) = mz_ro ad ao (mz_q y)))
    (k : mz_G X (match cd with | .eq => bif b then tgt else pc + 3 | .ne => bif b then pc + 3 else tgt) L st M K n top nc ns) : mz_G X pc L (y :: x :: st) M K n top nc ns := by
  obtain ⟨p, l, e, R, s, m, args, below, meth, c, nL, D, cA, ao, ρ, A, n0, ad0, Q⟩ := X
  intro ad ls H locs hn had hZ hl hst
  have q := k ad ls H locs hn had hZ hl (List.forall_mem_cons.mp (List.forall_mem_cons.mp hst).2).2
  have hb := hb ad ao (mz_inj hZ.2.1)
  rw [List.map_cons, List.map_cons, mz_cRq hx, mz_cRq hy, mz_r_rf, mz_r_rf]
  cases cd with
  | eq =>
    refine lv_acmp_eq C.1 C.2.1 hd ht (fun z => ?_) (fun z => ?_)
    · have e1 : b = true := hb.mpr z
      rw [e1] at q; exact q
    · have e1 : b = false := by
        cases b with
        | false => rfl
        | true => exact absurd (hb.mp rfl) z
      rw [e1] at q; exact q
  | ne =>
    refine lv_acmp_ne C.1 C.2.1 hd ht (fun z => ?_) (fun z => ?_)
    · have e1 : b = false := by
        cases b with
        | false => rfl
        | true => exact absurd (hb.mp rfl) z
      rw [e1] at q; exact q
    · have e1 : b = true := hb.mpr (by first | exact z | exact Decidable.not_not.mp z)
      rw [e1] at q; exact q
theorem mz_switchIn {df lo hi off : Int} {offs : Array Int} {len x tgt : Nat} (C : mz_Cx X cc own Ts F) (hd : decode cc pc = .ok (.tableswitch df lo hi offs, len)) (hx : mz_I x = true) (h1 : ¬ (mz_i (mz_rho X) x).toInt < lo) (h2 : ¬ hi < (mz_i (mz_rho X) x).toInt)
    (ho : offs[((mz_i (mz_rho X) x).toInt - lo).toNat]? = some off) (ht : (pc : Int) + off = (tgt : Int)) (k : mz_G X tgt L st M K n top nc ns) : mz_G X pc L (x :: st) M K n top nc ns := by
  obtain ⟨p, l, e, R, s, m, args, below, meth, c, nL, D, cA, ao, ρ, A, n0, ad0, Q⟩ := X
  intro ad ls H locs hn had hZ hl hst
  rw [List.map_cons, mz_cI hx]
  exact lv_tableIn C.1 C.2.1 hd h1 h2 ho ht (k ad ls H locs hn had hZ hl (List.forall_mem_cons.mp hst).2)
theorem mz_switchOut {df lo hi : Int} {offs : Array Int} {len x tgt : Nat} (C : mz_Cx X cc own Ts F) (hd : decode cc pc = .ok (.tableswitch df lo hi offs, len)) (hx : mz_I x = true) (h : (mz_i (mz_rho X) x).toInt < lo ∨ hi < (mz_i (mz_rho X) x).toInt)
    (ht : (pc : Int) + df = (tgt : Int)) (k : mz_G X tgt L st M K n top nc ns) : mz_G X pc L (x :: st) M K n top nc ns := by
  obtain ⟨p, l, e, R, s, m, args, below, meth, c, nL, D, cA, ao, ρ, A, n0, ad0, Q⟩ := X
  intro ad ls H locs hn had hZ hl hst
  rw [List.map_cons, mz_cI hx]
  exact lv_tableOut C.1 C.2.1 hd h ht (k ad ls H locs hn had hZ hl (List.forall_mem_cons.mp hst).2)
theorem mz_cat1 {ad ao : Nat → Nat} {ρ : Nat → Int32} {w : Nat} (h : mz_c2 w = false) : (mz_c ad ao ρ w).category = 1 := by
  rcases lv_cat (mz_c ad ao ρ w) with q | q
  · exact q
  · exact absurd q (mz_c2_cat h)
theorem mz_dup {x : Nat} (C : mz_Cx X cc own Ts F) (hd : decode cc pc = .ok (.dup, 1)) (hx : mz_c2 x = false) (k : mz_G X (pc + 1) L (x :: x :: st) M K n top nc ns) : mz_G X pc L (x :: st) M K n top nc ns := by
  obtain ⟨p, l, e, R, s, m, args, below, meth, c, nL, D, cA, ao, ρ, A, n0, ad0, Q⟩ := X
  intro ad ls H locs hn had hZ hl hst
  exact lv_dup C.1 C.2.1 hd (mz_cat1 hx) (k ad ls H locs hn had hZ hl (mz_hd (List.forall_mem_cons.mp hst).1 hst))
theorem mz_pop {x : Nat} (C : mz_Cx X cc own Ts F) (hd : decode cc pc = .ok (.pop, 1)) (hx : mz_c2 x = false) (k : mz_G X (pc + 1) L st M K n top nc ns) : mz_G X pc L (x :: st) M K n top nc ns := by
  obtain ⟨p, l, e, R, s, m, args, below, meth, c, nL, D, cA, ao, ρ, A, n0, ad0, Q⟩ := X
  intro ad ls H locs hn had hZ hl hst
  exact lv_pop C.1 C.2.1 hd (mz_cat1 hx) (k ad ls H locs hn had hZ hl (List.forall_mem_cons.mp hst).2)
theorem mz_dup_x1 {x y : Nat} (C : mz_Cx X cc own Ts F) (hd : decode cc pc = .ok (.dup_x1, 1)) (hx : mz_c2 x = false) (hy : mz_c2 y = false) (k : mz_G X (pc + 1) L (x :: y :: x :: st) M K n top nc ns) : mz_G X pc L (x :: y :: st) M K n top nc ns := by
  obtain ⟨p, l, e, R, s, m, args, below, meth, c, nL, D, cA, ao, ρ, A, n0, ad0, Q⟩ := X
  intro ad ls H locs hn had hZ hl hst
  obtain ⟨h1, h2⟩ := List.forall_mem_cons.mp hst
  obtain ⟨h3, h4⟩ := List.forall_mem_cons.mp h2
  exact lv_dup_x1 C.1 C.2.1 hd (mz_cat1 hx) (mz_cat1 hy) (k ad ls H locs hn had hZ hl (mz_hd h1 (mz_hd h3 (mz_hd h1 h4))))
theorem mz_dup2 {x y : Nat} (C : mz_Cx X cc own Ts F) (hd : decode cc pc = .ok (.dup2, 1)) (hx : mz_c2 x = false) (hy : mz_c2 y = false) (k : mz_G X (pc + 1) L (x :: y :: x :: y :: st) M K n top nc ns) : mz_G X pc L (x :: y :: st) M K n top nc ns := by
  obtain ⟨p, l, e, R, s, m, args, below, meth, c, nL, D, cA, ao, ρ, A, n0, ad0, Q⟩ := X
  intro ad ls H locs hn had hZ hl hst
  obtain ⟨h1, h2⟩ := List.forall_mem_cons.mp hst
  obtain ⟨h3, h4⟩ := List.forall_mem_cons.mp h2
  exact lv_dup2_11 C.1 C.2.1 hd (mz_cat1 hx) (mz_cat1 hy) (k ad ls H locs hn had hZ hl (mz_hd h1 (mz_hd h3 (mz_hd h1 (mz_hd h3 h4)))))
end MZ4
end
section
/-- a word of the tables, as it holds at the start -/
def mz_bf : mz_Xt → Jvm.Cond → Prop
  | (p, l, e, R, s, m, args, below, meth, c, nL, D, cA, ao, ρ, A, n0, ad0, Q), w => w.before args s = true
def mz_mn : mz_Xt → String
  | (p, l, e, R, s, m, args, below, meth, c, nL, D, cA, ao, ρ, A, n0, ad0, Q) => meth.name
section MZ5
variable {X : mz_Xt} {cc : ByteArray} {own : String} {Ts : List Jvm.Cond} {F : Nat → Nat × Nat} {pc L M K n top nc ns : Nat} {st : List Nat}
/-- x names the new cell k -/
def mz_ref (n x : Nat) : Bool := bif mz_R x then bif Nat.beq (mz_q x) 0 then false else bif Nat.ble (mz_q x) n then Nat.ble (mz_q x) 1048576 else false else false
theorem mz_ref_ok {x : Nat} (h : mz_ref n x = true) : mz_R x = true ∧ mz_q x ≠ 0 ∧ mz_q x ≤ n ∧ mz_q x ≤ 1048576 := by
  unfold mz_ref at h
  cases h1 : mz_R x with
  | false => rw [h1] at h; cases h
  | true =>
    rw [h1] at h
    cases h2 : Nat.beq (mz_q x) 0 with
    | true => rw [h2] at h; cases h
    | false =>
      rw [h2] at h
      cases h3 : Nat.ble (mz_q x) n with
      | false => rw [h3] at h; cases h
      | true =>
        rw [h3] at h
        exact ⟨rfl, mz_bn h2, mz_bl h3, mz_bl h⟩
def mz_k (x : Nat) : Nat := Nat.sub (mz_q x) 1
theorem mz_ref_c {x : Nat} {ad ao : Nat → Nat} {ρ : Nat → Int32} (h : mz_ref n x = true) : mz_c ad ao ρ x = .ref (ad (mz_k x)) ∧ mz_k x < n := by
  obtain ⟨h1, h2, h3, h4⟩ := mz_ref_ok h
  refine ⟨?_, ?_⟩
  · rw [mz_cRq h1, mz_r_new h2 h4]; rfl
  · show mz_q x - 1 < n; omega
theorem mz_E_obj {cA : Nat → ClassId} {ad ao : Nat → Nat} {ρ : Nat → Int32} {k ci : Nat} (ht : mz_ct K k = ci) (hc : ci < 64) : mz_E cA ad ao ρ M K k = .inr (ci, (List.range (mz_cn K k)).map fun j => mz_c ad ao ρ (mz_g M (mz_cb K k + j))) := by
  unfold mz_E mz_e
  rw [ht, if_pos hc]
theorem mz_rm_at {α : Type} {f : Nat → α} {N j : Nat} (h : j < N) : ((List.range N).map f)[j]? = some (f j) := by rw [List.getElem?_map, List.getElem?_range h]; rfl
theorem mz_getf {ci f idx x : Nat} {C0 ref : String} {T : u_T} {N : Nat} (C : mz_Cx X cc own Ts F) (hd : decode cc pc = .ok (.getfield idx, 3)) (hc : vwCl[ci]? = some (C0, T, N)) (hin : ∀ w ∈ u_ws C0 T N, w ∈ Ts) (hf : f < N) (hci : ci < 64)
    (hlink : mz_bf X (Jvm.Cond.fieldLink own idx ref (T f).2.1 (T f).2.2.1)) (hsame : ref = (T f).1 ∨ mz_bf X (Jvm.Cond.sameField ref (T f).1 (T f).2.1 (T f).2.2.1))
    (hx : mz_ref n x = true) (ht : mz_ct K (mz_k x) = ci) (hl : f < mz_cn K (mz_k x)) (k : mz_G X (pc + 3) L (mz_g M (mz_cb K (mz_k x) + f) :: st) M K n top nc ns) : mz_G X pc L (x :: st) M K n top nc ns := by
  obtain ⟨p, l, e, R, s, m, args, below, meth, c, nL, D, cA, ao, ρ, A, n0, ad0, Q⟩ := X
  obtain ⟨hex, hb, hml, hown, hts, hK, hA, hF, hV⟩ := C
  intro ad ls H locs hn had hZ hls hst
  obtain ⟨hP, hD, hS, hW, hC⟩ := hZ
  obtain ⟨e1, hk⟩ := mz_ref_c (ad := ad) (ao := ao) (ρ := ρ) hx
  have q := k ad ls H locs hn had ⟨hP, hD, hS, hW, hC⟩ hls (mz_hd (hC _) (List.forall_mem_cons.mp hst).2)
  rw [List.map_cons, e1]
  have he := mz_w_at (cA := cA) (ad := ad) (ao := ao) (ρ := ρ) (M := M) (K := K) hk
  rw [mz_E_obj ht hci] at he
  refine va_get hex hb hts hin hown hK hP (mz_k x) he hc f hf hlink (fun z hz => ?_) (mz_rm_at hl) hd q
  rcases hsame with h | h
  · rw [h]; exact hz
  · exact u_same h z hz
theorem mz_getfN {ci f idx x : Nat} {C0 host : String} {T : u_T} {N : Nat} (C : mz_Cx X cc own Ts F) (hd : decode cc pc = .ok (.getfield idx, 3)) (hc : vwCl[ci]? = some (C0, T, N)) (hin : ∀ w ∈ u_ws C0 T N, w ∈ Ts) (hf : f < N) (hci : ci < 64)
    (hlink : mz_bf X (Jvm.Cond.fieldLinkNest own idx (T f).1 (T f).2.1 (T f).2.2.1 host))
    (hx : mz_ref n x = true) (ht : mz_ct K (mz_k x) = ci) (hl : f < mz_cn K (mz_k x)) (k : mz_G X (pc + 3) L (mz_g M (mz_cb K (mz_k x) + f) :: st) M K n top nc ns) : mz_G X pc L (x :: st) M K n top nc ns := by
  obtain ⟨p, l, e, R, s, m, args, below, meth, c, nL, D, cA, ao, ρ, A, n0, ad0, Q⟩ := X
  obtain ⟨hex, hb, hml, hown, hts, hK, hA, hF, hV⟩ := C
  intro ad ls H locs hn had hZ hls hst
  obtain ⟨hP, hD, hS, hW, hC⟩ := hZ
  obtain ⟨e1, hk⟩ := mz_ref_c (ad := ad) (ao := ao) (ρ := ρ) hx
  have q := k ad ls H locs hn had ⟨hP, hD, hS, hW, hC⟩ hls (mz_hd (hC _) (List.forall_mem_cons.mp hst).2)
  rw [List.map_cons, e1]
  have he := mz_w_at (cA := cA) (ad := ad) (ao := ao) (ρ := ρ) (M := M) (K := K) hk
  rw [mz_E_obj ht hci] at he
  exact va_getN hex hb hts hin hown hK hP (mz_k x) he hc f hf hlink (fun z hz => hz) (mz_rm_at hl) hd q
/-- what may be put into a field of this type -/
def mz_fit (ty : FieldType) (w : Nat) : Bool := match ty with
  | .int => mz_I w
  | .long => mz_L w
  | .boolean => bif Nat.beq w 1 then true else Nat.beq w 17
  | .char => bif mz_t1 w then Nat.ble (Nat.succ (mz_q w)) 65536 else false
  | .object _ => mz_R w
  | .array _ => mz_R w
  | _ => false
theorem mz_fit_ok {ty : FieldType} {w : Nat} (h : mz_fit ty w = true) (ad ao : Nat → Nat) (ρ : Nat → Int32) : narrow ty (mz_c ad ao ρ w) = mz_c ad ao ρ w ∧ fits ty (mz_c ad ao ρ w) = true := by
  cases ty with
  | int => rw [mz_cI h]; exact ⟨rfl, rfl⟩
  | long => rw [mz_cL h]; exact ⟨rfl, rfl⟩
  | boolean =>
    have h : (bif Nat.beq w 1 then true else Nat.beq w 17) = true := h
    cases h1 : Nat.beq w 1 with
    | true =>
      rw [mz_bq h1, show mz_c ad ao ρ 1 = .int 0 by simp [mz_c]; rfl]
      decide
    | false =>
      rw [h1] at h
      have h : Nat.beq w 17 = true := h
      rw [mz_bq h, show mz_c ad ao ρ 17 = .int 1 by simp [mz_c]; rfl]
      decide
  | char =>
    have h : (bif mz_t1 w then Nat.ble (Nat.succ (mz_q w)) 65536 else false) = true := h
    cases h1 : mz_t1 w with
    | false => rw [h1] at h; cases h
    | true =>
      rw [h1] at h
      obtain ⟨g1, g2⟩ := mz_s1 (ρ := ρ) h1
      rw [mz_cI g1, g2]
      exact pk_charN (mz_bl h)
  | object C =>
    rw [mz_cR h]
    rcases mz_r_or (ad := ad) (ao := ao) (w / 16) with z | ⟨a, z⟩ <;> rw [z] <;> exact ⟨rfl, rfl⟩
  | array t =>
    rw [mz_cR h]
    rcases mz_r_or (ad := ad) (ao := ao) (w / 16) with z | ⟨a, z⟩ <;> rw [z] <;> exact ⟨rfl, rfl⟩
  | byte => cases h
  | short => cases h
  | float => cases h
  | double => cases h
/-- an object's field written: the cell's new contents -/
theorem mz_obj_set {cA : Nat → ClassId} {ad ao : Nat → Nat} {ρ : Nat → Int32} {k ci f v : Nat} (ht : mz_ct K k = ci) (hc : ci < 64) (hv : v < mz_B) :
    (.inr (ci, ((List.range (mz_cn K k)).map fun j => mz_c ad ao ρ (mz_g M (mz_cb K k + j))).set f (mz_c ad ao ρ v)) : va_E) = mz_E cA ad ao ρ (mz_p M (mz_cb K k + f) v) K k := by
  rw [mz_E_obj ht hc]
  congr 2
  refine List.ext_getElem? fun i => ?_
  rw [List.getElem?_set]
  by_cases hi : i < mz_cn K k
  · rw [mz_rm_at hi, mz_rm_at hi]
    by_cases hfi : f = i
    · subst hfi
      rw [if_pos rfl, mz_gp hv, if_pos rfl, if_pos (by simpa using hi)]
    · rw [if_neg hfi, mz_gp hv, if_neg (by omega)]
  · rw [List.getElem?_eq_none (by simp; omega), List.getElem?_eq_none (by simp; omega)]
    by_cases hfi : f = i
    · subst hfi
      rw [if_pos rfl, if_neg (by simpa using hi)]
    · rw [if_neg hfi]
theorem mz_putf {ci f idx x v : Nat} {C0 ref : String} {T : u_T} {N : Nat} {ty0 : Nat → FieldType} (C : mz_Cx X cc own Ts F) (hd : decode cc pc = .ok (.putfield idx, 3)) (hc : vwCl[ci]? = some (C0, T, N)) (hin : ∀ w ∈ u_ws C0 T N, w ∈ Ts) (hf : f < N) (hci : ci < 64)
    (hty : ∀ k, k < N → parseFieldDescriptor (T k).2.2.1 = some (ty0 k)) (hnm : ∀ a, a < N → ∀ b, b < N → a ≠ b → (T a).2.1 ≠ (T b).2.1)
    (hlink : mz_bf X (Jvm.Cond.fieldLink own idx ref (T f).2.1 (T f).2.2.1)) (hsame : ref = (T f).1 ∨ mz_bf X (Jvm.Cond.sameField ref (T f).1 (T f).2.1 (T f).2.2.1))
    (hfin : (T f).2.2.2 = false ∨ ((T f).2.2.2 = true ∧ mz_mn X = "<init>" ∧ (T f).1 = own))
    (hx : mz_ref n x = true) (ht : mz_ct K (mz_k x) = ci) (hl : f < mz_cn K (mz_k x)) (hfit : mz_fit (ty0 f) v = true) (hv : v < mz_B) (k : mz_G X (pc + 3) L st (mz_p M (mz_cb K (mz_k x) + f) v) K n top nc ns) : mz_G X pc L (v :: x :: st) M K n top nc ns := by
  obtain ⟨p, l, e, R, s, m, args, below, meth, c, nL, D, cA, ao, ρ, A, n0, ad0, Q⟩ := X
  obtain ⟨hex, hb, hml, hown, hts, hK, hA, hF, hV⟩ := C
  intro ad ls H locs hn had hZ hls hst
  obtain ⟨hP, hD, hS, hW, hC⟩ := hZ
  obtain ⟨e1, hk⟩ := mz_ref_c (ad := ad) (ao := ao) (ρ := ρ) hx
  obtain ⟨s1, s2⟩ := List.forall_mem_cons.mp hst
  rw [List.map_cons, List.map_cons, e1]
  have he := mz_w_at (cA := cA) (ad := ad) (ao := ao) (ρ := ρ) (M := M) (K := K) hk
  rw [mz_E_obj ht hci] at he
  obtain ⟨g1, g2⟩ := mz_fit_ok hfit ad ao ρ
  have hs : ∀ z, s.fieldFound? (T f).1 (T f).2.1 (T f).2.2.1 = some z → s.fieldFound? ref (T f).2.1 (T f).2.2.1 = some z := fun z hz => by
    rcases hsame with h | h
    · rw [h]; exact hz
    · exact u_same h z hz
  have kk : ∀ (H1 : Heap) (locs1 : List Loc), va_P D vwCl ((mz_w cA ad ao ρ M K n).set (mz_k x) (ad (mz_k x), .inr (ci, ((List.range (mz_cn K (mz_k x))).map fun j => mz_c ad ao ρ (mz_g M (mz_cb K (mz_k x) + j))).set f (mz_c ad ao ρ v)))) H1 →
      va_D A ((mz_w cA ad ao ρ M K n).set (mz_k x) (ad (mz_k x), .inr (ci, ((List.range (mz_cn K (mz_k x))).map fun j => mz_c ad ao ρ (mz_g M (mz_cb K (mz_k x) + j))).set f (mz_c ad ao ρ v)))) → va_S A s.heap H1 locs1 →
      W p l e R s m args below meth c H1 locs1 nc ns Q (F0 m (pc + 3) ls (st.map (mz_c ad ao ρ))) := fun H1 locs1 hP1 hD1 hS1 => by
    have e2 := mz_w_set (cA := cA) (ad := ad) (ao := ao) (ρ := ρ) (M := M) hW hk hl hv (mz_obj_set (cA := cA) (ad := ad) (ao := ao) (ρ := ρ) (M := M) (f := f) ht hci hv)
    rw [e2] at hP1 hD1
    exact k ad ls H1 locs1 hn had ⟨hP1, hD1, hS1, hW, fun i => mz_gp_cl hv s1 hC⟩ hls (List.forall_mem_cons.mp s2).2
  have hlen : f < ((List.range (mz_cn K (mz_k x))).map fun j => mz_c ad ao ρ (mz_g M (mz_cb K (mz_k x) + j))).length := by simpa using hl
  rcases hfin with h | ⟨h, h2, h3⟩
  · exact va_put hex hb hts hin ty0 hty hnm hown hK hP hD hS (mz_k x) he hc f hf hlink hs h (hty f hf) g1 g2 hlen hd kk
  · exact va_putF hex hb hts hin ty0 hty hnm hown hK hP hD hS (mz_k x) he hc f hf hlink hs h h2 h3 (hty f hf) g1 g2 hlen hd kk
end MZ5
end
section
section MZ6
variable {X : mz_Xt} {cc : ByteArray} {own : String} {Ts : List Jvm.Cond} {F : Nat → Nat × Nat} {pc L M K n top nc ns : Nat} {st : List Nat}
theorem mz_E_arr {cA : Nat → ClassId} {ad ao : Nat → Nat} {ρ : Nat → Int32} {k t : Nat} (ht : mz_ct K k = 64 + t) : mz_E cA ad ao ρ M K k = .inl (cA t, mz_cn K k, mz_pic t (mz_cn K k) fun j => mz_c ad ao ρ (mz_g M (mz_cb K k + j))) := by
  unfold mz_E mz_e
  rw [ht, if_neg (by omega), show 64 + t - 64 = t by omega]
theorem mz_pic_i {t N : Nat} {f : Nat → Value} (h : t = 0 ∨ t = 2 ∨ t = 3) : mz_pic t N f = .inl fun j => if j < N then mz_toI (f j) else 0 := by
  unfold mz_pic
  rw [if_neg (by omega), if_neg (by omega), if_pos (by omega)]
theorem mz_pic_l {N : Nat} {f : Nat → Value} : mz_pic 1 N f = .inr (.inl fun j => if j < N then mz_toL (f j) else 0) := rfl
theorem mz_pic_q {t N : Nat} {f : Nat → Value} (h : 5 ≤ t) : mz_pic t N f = .inr (.inr (.inr (.inr fun j => if j < N then mz_toR (f j) else none))) := by
  unfold mz_pic
  rw [if_neg (by omega), if_neg (by omega), if_neg (by omega)]
/-- a small index -/
theorem mz_ix {ρ : Nat → Int32} {i N : Nat} (hi : mz_sm i = true) (hN : mz_q i < N) : mz_I i = true ∧ vp_in (mz_i ρ i) N ∧ (mz_i ρ i).toNatClampNeg = mz_q i := by
  obtain ⟨h1, h2⟩ := mz_sm_ok hi
  obtain ⟨g1, g2⟩ := mz_s1 (ρ := ρ) h1
  refine ⟨g1, ?_, ?_⟩
  · rw [g2]
    unfold vp_in
    rintro (q | q)
    · exact nI_pos h2 q
    · rw [nI_clamp h2] at q; omega
  · rw [g2, nI_clamp h2]
theorem mz_toR_r {ad ao : Nat → Nat} (q : Nat) : mz_toR (mz_r ad ao q) = mz_ro ad ao q := by
  rw [mz_r_rf]
  cases mz_ro ad ao q <;> rfl
/-- an int, char or boolean of an array -/
theorem mz_xald {x i t : Nat} {ins : Instr} (C : mz_Cx X cc own Ts F) (hd : decode cc pc = .ok (ins, 1)) (hi2 : (ins = .iaload ∧ t = 0) ∨ (ins = .caload ∧ t = 2) ∨ (ins = .baload ∧ t = 3)) (hx : mz_ref n x = true) (ht : mz_ct K (mz_k x) = 64 + t) (hi : mz_sm i = true) (hl : mz_q i < mz_cn K (mz_k x))
    (hw : mz_I (mz_g M (mz_cb K (mz_k x) + mz_q i)) = true) (k : mz_G X (pc + 1) L (mz_g M (mz_cb K (mz_k x) + mz_q i) :: st) M K n top nc ns) : mz_G X pc L (i :: x :: st) M K n top nc ns := by
  obtain ⟨p, l, e, R, s, m, args, below, meth, c, nL, D, cA, ao, ρ, A, n0, ad0, Q⟩ := X
  obtain ⟨hex, hb, hml, hown, hts, hK, hA, hF, hV⟩ := C
  intro ad ls H locs hn had hZ hls hst
  obtain ⟨hP, hD, hS, hW, hC⟩ := hZ
  obtain ⟨e1, hk⟩ := mz_ref_c (ad := ad) (ao := ao) (ρ := ρ) hx
  obtain ⟨i1, i2, i3⟩ := mz_ix (ρ := ρ) hi hl
  have q := k ad ls H locs hn had ⟨hP, hD, hS, hW, hC⟩ hls (mz_hd (hC _) (List.forall_mem_cons.mp (List.forall_mem_cons.mp hst).2).2)
  rw [List.map_cons, mz_cI hw] at q
  rw [List.map_cons, List.map_cons, e1, mz_cI i1]
  have he := mz_w_at (cA := cA) (ad := ad) (ao := ao) (ρ := ρ) (M := M) (K := K) hk
  rw [mz_E_arr ht, mz_pic_i (by rcases hi2 with ⟨-, z⟩ | ⟨-, z⟩ | ⟨-, z⟩ <;> omega)] at he
  have ev : (fun j => if j < mz_cn K (mz_k x) then mz_toI (mz_c ad ao ρ (mz_g M (mz_cb K (mz_k x) + j))) else 0) (mz_i ρ i).toNatClampNeg = mz_i ρ (mz_g M (mz_cb K (mz_k x) + mz_q i)) := by
    rw [i3]
    show (if mz_q i < mz_cn K (mz_k x) then _ else _) = _
    rw [if_pos hl, mz_cI hw]; rfl
  rw [← ev] at q
  rcases hi2 with ⟨rfl, rfl⟩ | ⟨rfl, rfl⟩ | ⟨rfl, rfl⟩
  · exact va_iald hex hb hK hP (mz_k x) 0 he (mz_tys_at (by decide)) i2 hd q
  · exact va_cald hex hb hK hP (mz_k x) 2 he (mz_tys_at (by decide)) i2 hd q
  · exact va_zald hex hb hK hP (mz_k x) 3 he (mz_tys_at (by decide)) i2 hd q
theorem mz_lald {x i : Nat} (C : mz_Cx X cc own Ts F) (hd : decode cc pc = .ok (.laload, 1)) (hx : mz_ref n x = true) (ht : mz_ct K (mz_k x) = 64 + 1) (hi : mz_sm i = true) (hl : mz_q i < mz_cn K (mz_k x))
    (hw : mz_L (mz_g M (mz_cb K (mz_k x) + mz_q i)) = true) (k : mz_G X (pc + 1) L (mz_g M (mz_cb K (mz_k x) + mz_q i) :: st) M K n top nc ns) : mz_G X pc L (i :: x :: st) M K n top nc ns := by
  obtain ⟨p, l, e, R, s, m, args, below, meth, c, nL, D, cA, ao, ρ, A, n0, ad0, Q⟩ := X
  obtain ⟨hex, hb, hml, hown, hts, hK, hA, hF, hV⟩ := C
  intro ad ls H locs hn had hZ hls hst
  obtain ⟨hP, hD, hS, hW, hC⟩ := hZ
  obtain ⟨e1, hk⟩ := mz_ref_c (ad := ad) (ao := ao) (ρ := ρ) hx
  obtain ⟨i1, i2, i3⟩ := mz_ix (ρ := ρ) hi hl
  have q := k ad ls H locs hn had ⟨hP, hD, hS, hW, hC⟩ hls (mz_hd (hC _) (List.forall_mem_cons.mp (List.forall_mem_cons.mp hst).2).2)
  rw [List.map_cons, mz_cL hw] at q
  rw [List.map_cons, List.map_cons, e1, mz_cI i1]
  have he := mz_w_at (cA := cA) (ad := ad) (ao := ao) (ρ := ρ) (M := M) (K := K) hk
  rw [mz_E_arr ht, mz_pic_l] at he
  have ev : (fun j => if j < mz_cn K (mz_k x) then mz_toL (mz_c ad ao ρ (mz_g M (mz_cb K (mz_k x) + j))) else 0) (mz_i ρ i).toNatClampNeg = mz_l ρ (mz_g M (mz_cb K (mz_k x) + mz_q i)) := by
    rw [i3]
    show (if mz_q i < mz_cn K (mz_k x) then _ else _) = _
    rw [if_pos hl, mz_cL hw]; rfl
  rw [← ev] at q
  exact va_lald hex hb hK hP (mz_k x) 1 he (mz_tys_at (by decide)) i2 hd q
theorem mz_ty_obj {t : Nat} (h1 : 5 ≤ t) (h2 : t < 9) : ∃ C0 : String, mz_ty.getD t .int = .object C0 := by
  have h : t = 5 ∨ t = 6 ∨ t = 7 ∨ t = 8 := by omega
  rcases h with rfl | rfl | rfl | rfl <;> exact ⟨_, rfl⟩
theorem mz_aald {x i t : Nat} (C : mz_Cx X cc own Ts F) (hd : decode cc pc = .ok (.aaload, 1)) (hx : mz_ref n x = true) (ht : mz_ct K (mz_k x) = 64 + t) (h5 : 5 ≤ t) (h9 : t < 9) (hi : mz_sm i = true) (hl : mz_q i < mz_cn K (mz_k x))
    (hw : mz_R (mz_g M (mz_cb K (mz_k x) + mz_q i)) = true) (k : mz_G X (pc + 1) L (mz_g M (mz_cb K (mz_k x) + mz_q i) :: st) M K n top nc ns) : mz_G X pc L (i :: x :: st) M K n top nc ns := by
  obtain ⟨p, l, e, R, s, m, args, below, meth, c, nL, D, cA, ao, ρ, A, n0, ad0, Q⟩ := X
  obtain ⟨hex, hb, hml, hown, hts, hK, hA, hF, hV⟩ := C
  intro ad ls H locs hn had hZ hls hst
  obtain ⟨hP, hD, hS, hW, hC⟩ := hZ
  obtain ⟨e1, hk⟩ := mz_ref_c (ad := ad) (ao := ao) (ρ := ρ) hx
  obtain ⟨i1, i2, i3⟩ := mz_ix (ρ := ρ) hi hl
  have q := k ad ls H locs hn had ⟨hP, hD, hS, hW, hC⟩ hls (mz_hd (hC _) (List.forall_mem_cons.mp (List.forall_mem_cons.mp hst).2).2)
  rw [List.map_cons, mz_cRq hw, mz_r_rf] at q
  rw [List.map_cons, List.map_cons, e1, mz_cI i1]
  have he := mz_w_at (cA := cA) (ad := ad) (ao := ao) (ρ := ρ) (M := M) (K := K) hk
  rw [mz_E_arr ht, mz_pic_q h5] at he
  have ev : (fun j => if j < mz_cn K (mz_k x) then mz_toR (mz_c ad ao ρ (mz_g M (mz_cb K (mz_k x) + j))) else none) (mz_i ρ i).toNatClampNeg = mz_ro ad ao (mz_q (mz_g M (mz_cb K (mz_k x) + mz_q i))) := by
    rw [i3]
    show (if mz_q i < mz_cn K (mz_k x) then _ else _) = _
    rw [if_pos hl, mz_cRq hw, mz_toR_r]
  rw [← ev] at q
  obtain ⟨C0, hC0⟩ := mz_ty_obj h5 h9
  have htt := mz_tys_at (cA := cA) h9
  rw [hC0] at htt
  exact va_aldq hex hb hK hP (mz_k x) t he htt i2 hd q
/-! writing -/
theorem mz_up {β : Type} {u : Value → β} {d y : β} {ad ao : Nat → Nat} {ρ : Nat → Int32} {N b j v : Nat} (hj : j < N) (hv : v < mz_B) (hy : u (mz_c ad ao ρ v) = y) :
    (fun q => if q = j then y else (if q < N then u (mz_c ad ao ρ (mz_g M (b + q))) else d)) = (fun q => if q < N then u (mz_c ad ao ρ (mz_g (mz_p M (b + j) v) (b + q))) else d) := by
  funext q
  by_cases h : q = j
  · subst h
    rw [if_pos rfl, if_pos hj, mz_gp hv, if_pos rfl, hy]
  · rw [if_neg h]
    by_cases h2 : q < N
    · rw [if_pos h2, if_pos h2, mz_gp hv, if_neg (by omega)]
    · rw [if_neg h2, if_neg h2]
theorem mz_arr_set {cA : Nat → ClassId} {ad ao : Nat → Nat} {ρ : Nat → Int32} {k t j v : Nat} {z : (Nat → Int32) ⊕ (Nat → Int64) ⊕ (Nat → UInt32) ⊕ (Nat → UInt64) ⊕ (Nat → Option Nat)} (ht : mz_ct K k = 64 + t)
    (hz : z = mz_pic t (mz_cn K k) fun q => mz_c ad ao ρ (mz_g (mz_p M (mz_cb K k + j) v) (mz_cb K k + q))) : (.inl (cA t, mz_cn K k, z) : va_E) = mz_E cA ad ao ρ (mz_p M (mz_cb K k + j) v) K k := by
  rw [mz_E_arr ht, hz]
/-- what may be put into an array of ints, chars, booleans -/
def mz_nar (t w : Nat) : Bool := bif Nat.beq t 0 then mz_I w else bif Nat.beq t 2 then mz_fit .char w else bif Nat.beq t 3 then mz_fit .boolean w else false
theorem mz_vc : ∀ a : Fin 65536, vp_nar .char (nI a.val) = nI a.val := fun a => by
  rw [vp_nar_char]
  have h := mz_i2c a.val
  rw [Nat.mod_eq_of_lt a.isLt] at h
  exact h
theorem mz_xast {x i t v : Nat} {ins : Instr} (C : mz_Cx X cc own Ts F) (hd : decode cc pc = .ok (ins, 1)) (hi2 : (ins = .iastore ∧ t = 0) ∨ (ins = .castore ∧ t = 2) ∨ (ins = .bastore ∧ t = 3)) (hx : mz_ref n x = true) (ht : mz_ct K (mz_k x) = 64 + t) (hi : mz_sm i = true) (hl : mz_q i < mz_cn K (mz_k x))
    (hw : mz_nar t v = true) (hv : v < mz_B) (k : mz_G X (pc + 1) L st (mz_p M (mz_cb K (mz_k x) + mz_q i) v) K n top nc ns) : mz_G X pc L (v :: i :: x :: st) M K n top nc ns := by
  obtain ⟨p, l, e, R, s, m, args, below, meth, c, nL, D, cA, ao, ρ, A, n0, ad0, Q⟩ := X
  obtain ⟨hex, hb, hml, hown, hts, hK, hA, hF, hV⟩ := C
  intro ad ls H locs hn had hZ hls hst
  obtain ⟨hP, hD, hS, hW, hC⟩ := hZ
  obtain ⟨e1, hk⟩ := mz_ref_c (ad := ad) (ao := ao) (ρ := ρ) hx
  obtain ⟨i1, i2, i3⟩ := mz_ix (ρ := ρ) hi hl
  obtain ⟨s1, s2⟩ := List.forall_mem_cons.mp hst
  have hst' := (List.forall_mem_cons.mp (List.forall_mem_cons.mp s2).2).2
  have he := mz_w_at (cA := cA) (ad := ad) (ao := ao) (ρ := ρ) (M := M) (K := K) hk
  rw [mz_E_arr ht, mz_pic_i (by rcases hi2 with ⟨-, z⟩ | ⟨-, z⟩ | ⟨-, z⟩ <;> omega)] at he
  have hI : mz_I v = true := by
    unfold mz_nar at hw
    rcases hi2 with ⟨-, rfl⟩ | ⟨-, rfl⟩ | ⟨-, rfl⟩
    · exact hw
    · have h : (bif mz_t1 v then Nat.ble (Nat.succ (mz_q v)) 65536 else false) = true := hw
      cases h1 : mz_t1 v with
      | true => exact (mz_s1 (ρ := ρ) h1).1
      | false => rw [h1] at h; cases h
    · have h : (bif Nat.beq v 1 then true else Nat.beq v 17) = true := hw
      cases h1 : Nat.beq v 1 with
      | true => rw [mz_bq h1]; decide
      | false => rw [h1] at h; rw [mz_bq h]; decide
  rw [List.map_cons, List.map_cons, List.map_cons, e1, mz_cI i1, mz_cI hI]
  have fin : ∀ (H1 : Heap) (locs1 : List Loc) (z : Int32), z = mz_i ρ v →
      va_P D vwCl ((mz_w cA ad ao ρ M K n).set (mz_k x) (ad (mz_k x), .inl (cA t, mz_cn K (mz_k x), .inl (upd (fun j => if j < mz_cn K (mz_k x) then mz_toI (mz_c ad ao ρ (mz_g M (mz_cb K (mz_k x) + j))) else 0) (mz_i ρ i).toNatClampNeg z)))) H1 →
      va_D A ((mz_w cA ad ao ρ M K n).set (mz_k x) (ad (mz_k x), .inl (cA t, mz_cn K (mz_k x), .inl (upd (fun j => if j < mz_cn K (mz_k x) then mz_toI (mz_c ad ao ρ (mz_g M (mz_cb K (mz_k x) + j))) else 0) (mz_i ρ i).toNatClampNeg z)))) →
      va_S A s.heap H1 locs1 → W p l e R s m args below meth c H1 locs1 nc ns Q (F0 m (pc + 1) ls (st.map (mz_c ad ao ρ))) := fun H1 locs1 z hz hP1 hD1 hS1 => by
    have e3 : upd (fun j => if j < mz_cn K (mz_k x) then mz_toI (mz_c ad ao ρ (mz_g M (mz_cb K (mz_k x) + j))) else 0) (mz_i ρ i).toNatClampNeg z = (fun q => if q < mz_cn K (mz_k x) then mz_toI (mz_c ad ao ρ (mz_g (mz_p M (mz_cb K (mz_k x) + mz_q i) v) (mz_cb K (mz_k x) + q))) else 0) := by
      rw [i3, hz]
      exact mz_up hl hv (by rw [mz_cI hI]; rfl)
    have e2 := mz_w_set (cA := cA) (ad := ad) (ao := ao) (ρ := ρ) (M := M) hW hk hl hv (mz_arr_set (cA := cA) (ad := ad) (ao := ao) (ρ := ρ) (M := M) (j := mz_q i) (v := v) ht (by rw [mz_pic_i (by rcases hi2 with ⟨-, z⟩ | ⟨-, z⟩ | ⟨-, z⟩ <;> omega)]))
    rw [e3, e2] at hP1 hD1
    exact k ad ls H1 locs1 hn had ⟨hP1, hD1, hS1, hW, fun i => mz_gp_cl hv s1 hC⟩ hls hst'
  rcases hi2 with ⟨rfl, rfl⟩ | ⟨rfl, rfl⟩ | ⟨rfl, rfl⟩
  · exact va_iast hex hb hK hP hD hS (mz_k x) 0 he (mz_tys_at (by decide)) i2 hd fun H1 locs1 => fin H1 locs1 _ rfl
  · refine va_cast hex hb hK hP hD hS (mz_k x) 2 he (mz_tys_at (by decide)) i2 hd fun H1 locs1 => fin H1 locs1 _ ?_
    have h : (bif mz_t1 v then Nat.ble (Nat.succ (mz_q v)) 65536 else false) = true := hw
    cases h1 : mz_t1 v with
    | false => rw [h1] at h; cases h
    | true =>
      rw [h1] at h
      rw [(mz_s1 (ρ := ρ) h1).2]
      exact mz_vc ⟨mz_q v, mz_bl h⟩
  · refine va_zast hex hb hK hP hD hS (mz_k x) 3 he (mz_tys_at (by decide)) i2 hd fun H1 locs1 => fin H1 locs1 _ ?_
    have h : (bif Nat.beq v 1 then true else Nat.beq v 17) = true := hw
    cases h1 : Nat.beq v 1 with
    | true => rw [mz_bq h1, show mz_i ρ 1 = 0 from rfl]; decide
    | false =>
      rw [h1] at h
      have h : Nat.beq v 17 = true := h
      rw [mz_bq h, show mz_i ρ 17 = 1 from rfl]; decide
end MZ6
end
section
/-! NEW CELLS -/
noncomputable def mz_fl (l : List Nat) : Nat → Nat → Nat := List.rec (motive := fun _ => Nat → Nat → Nat) (fun M _ => M) (fun w _ ih M b => mz_f (mz_p M b w) (fun M' => ih M' (Nat.succ b))) l
theorem mz_fl_cons (w : Nat) (l : List Nat) (M b : Nat) : mz_fl (w :: l) M b = mz_fl l (mz_p M b w) (b + 1) := by
  show mz_f (mz_p M b w) (fun M' => mz_fl l M' (Nat.succ b)) = _
  rw [mz_f_eq]
theorem mz_fl_g : ∀ (l : List Nat) (M b j : Nat), (∀ w ∈ l, w < mz_B) → mz_g (mz_fl l M b) j = if b ≤ j ∧ j < b + l.length then l.getD (j - b) 0 else mz_g M j := by
  intro l
  induction l with
  | nil =>
    intro M b j _
    rw [if_neg (by simp)]; rfl
  | cons w l ih =>
    intro M b j h
    obtain ⟨h1, h2⟩ := List.forall_mem_cons.mp h
    rw [mz_fl_cons, ih _ _ _ h2]
    by_cases q : b ≤ j ∧ j < b + (w :: l).length
    · rw [if_pos q]
      rw [List.length_cons] at q
      by_cases q2 : j = b
      · subst q2
        rw [if_neg (by omega), mz_gp h1, if_pos rfl, Nat.sub_self]; rfl
      · rw [if_pos (by omega), show j - b = (j - (b + 1)) + 1 by omega]; rfl
    · rw [if_neg q]
      rw [List.length_cons] at q
      rw [if_neg (by omega), mz_gp h1, if_neg (by omega)]
def mz_ad (ad : Nat → Nat) (n q : Nat) : Nat → Nat := fun k => if k = n then q else ad k
theorem mz_ad_lt {ad : Nat → Nat} {n q : Nat} : ∀ k, k < n → mz_ad ad n q k = ad k := fun k h => by unfold mz_ad; rw [if_neg (by omega)]
theorem mz_ad_at {ad : Nat → Nat} {n q : Nat} : mz_ad ad n q n = q := by unfold mz_ad; rw [if_pos rfl]
/-- a row of the table of cells -/
def mz_mt (tag len top : Nat) : Nat := Nat.add tag (Nat.mul 256 (Nat.add len (Nat.mul 65536 top)))
theorem mz_mt_ok {tag len top : Nat} (h1 : tag < 256) (h2 : len < 65536) : mz_mt tag len top % 256 = tag ∧ mz_mt tag len top / 256 % 65536 = len ∧ mz_mt tag len top / 16777216 = top := by
  show (tag + 256 * (len + 65536 * top)) % 256 = tag ∧ (tag + 256 * (len + 65536 * top)) / 256 % 65536 = len ∧ (tag + 256 * (len + 65536 * top)) / 16777216 = top
  omega
/-- room in the small memory for one cell more -/
def mz_roomy (n len top : Nat) : Bool := bif Nat.ble (Nat.succ len) 65536 then bif Nat.ble (Nat.succ top) 16777216 then Nat.ble (Nat.succ n) 1048576 else false else false
theorem mz_roomy_ok {n len top : Nat} (h : mz_roomy n len top = true) : len < 65536 ∧ top < 16777216 ∧ n < 1048576 := by
  unfold mz_roomy at h
  cases h1 : Nat.ble (Nat.succ len) 65536 with
  | false => rw [h1] at h; cases h
  | true =>
    rw [h1] at h
    cases h2 : Nat.ble (Nat.succ top) 16777216 with
    | false => rw [h2] at h; cases h
    | true =>
      rw [h2] at h
      exact ⟨mz_bl h1, mz_bl h2, mz_bl h⟩
section MZ7
variable {M K n top : Nat}
theorem mz_mt_lt {tag len : Nat} (h0 : tag < 256) (h : mz_roomy n len top = true) : mz_mt tag len top < mz_B := by
  obtain ⟨h1, h2, h3⟩ := mz_roomy_ok h
  show tag + 256 * (len + 65536 * top) < mz_B
  unfold mz_B
  omega
theorem mz_K_old {tag len k : Nat} (h0 : tag < 256) (h : mz_roomy n len top = true) (hk : k ≠ n) : mz_ct (mz_p K n (mz_mt tag len top)) k = mz_ct K k ∧ mz_cn (mz_p K n (mz_mt tag len top)) k = mz_cn K k ∧ mz_cb (mz_p K n (mz_mt tag len top)) k = mz_cb K k := by
  unfold mz_ct mz_cn mz_cb
  rw [mz_gp (mz_mt_lt h0 h), if_neg hk]
  exact ⟨rfl, rfl, rfl⟩
theorem mz_K_new {tag len : Nat} (h0 : tag < 256) (h : mz_roomy n len top = true) : mz_ct (mz_p K n (mz_mt tag len top)) n = tag ∧ mz_cn (mz_p K n (mz_mt tag len top)) n = len ∧ mz_cb (mz_p K n (mz_mt tag len top)) n = top := by
  obtain ⟨g1, g2, g3⟩ := mz_mt_ok (top := top) h0 (mz_roomy_ok h).1
  unfold mz_ct mz_cn mz_cb
  rw [mz_gp (mz_mt_lt h0 h), if_pos rfl]
  exact ⟨g1, g2, g3⟩
theorem mz_K_push {tag len : Nat} (hW : mz_K n K top) (h0 : tag < 256) (h : mz_roomy n len top = true) : mz_K (n + 1) (mz_p K n (mz_mt tag len top)) (top + len) := by
  obtain ⟨-, n2, n3⟩ := mz_K_new (K := K) h0 h
  refine ⟨fun i j hij hj => ?_, fun i hi => ?_⟩
  · obtain ⟨-, i2, i3⟩ := mz_K_old (K := K) h0 h (show i ≠ n by omega)
    rw [i2, i3]
    by_cases q : j = n
    · subst q
      rw [n3]; exact hW.2 i hij
    · obtain ⟨-, j2, j3⟩ := mz_K_old (K := K) h0 h q
      rw [j3]; exact hW.1 i j hij (by omega)
  · by_cases q : i = n
    · subst q
      rw [n2, n3]; exact Nat.le_refl _
    · obtain ⟨-, i2, i3⟩ := mz_K_old (K := K) h0 h q
      rw [i2, i3]
      have := hW.2 i (by omega)
      omega
variable {cA : Nat → ClassId} {ad ao : Nat → Nat} {ρ : Nat → Int32}
theorem mz_w_push {tag q : Nat} {l : List Nat} (hW : mz_K n K top) (h0 : tag < 256) (h : mz_roomy n l.length top = true) (hl : ∀ w ∈ l, w < mz_B) (hC : ∀ i, mz_cl n (mz_g M i) = true) :
    mz_w cA (mz_ad ad n q) ao ρ (mz_fl l M top) (mz_p K n (mz_mt tag l.length top)) (n + 1) = mz_w cA ad ao ρ M K n ++ [(q, mz_e cA tag l.length fun j => mz_c (mz_ad ad n q) ao ρ (l.getD j 0))] := by
  obtain ⟨n1, n2, n3⟩ := mz_K_new (K := K) h0 h
  have e1 : mz_w cA (mz_ad ad n q) ao ρ (mz_fl l M top) (mz_p K n (mz_mt tag l.length top)) (n + 1) = ((List.range n).map fun k => (mz_ad ad n q k, mz_E cA (mz_ad ad n q) ao ρ (mz_fl l M top) (mz_p K n (mz_mt tag l.length top)) k)) ++ [(mz_ad ad n q n, mz_E cA (mz_ad ad n q) ao ρ (mz_fl l M top) (mz_p K n (mz_mt tag l.length top)) n)] := by
    unfold mz_w
    rw [List.range_succ, List.map_append]; rfl
  rw [e1]
  congr 1
  · unfold mz_w
    refine List.map_congr_left fun k hk => ?_
    have hk := List.mem_range.mp hk
    obtain ⟨k1, k2, k3⟩ := mz_K_old (K := K) h0 h (show k ≠ n by omega)
    rw [mz_ad_lt k hk]
    congr 1
    unfold mz_E
    rw [k1, k2, k3]
    refine mz_e_congr fun j hj => ?_
    have := hW.2 k hk
    rw [mz_fl_g _ _ _ _ hl, if_neg (by omega), mz_c_ad (hC _) mz_ad_lt]
  · rw [mz_ad_at]
    congr 2
    unfold mz_E
    rw [n1, n2, n3]
    refine mz_e_congr fun j hj => ?_
    rw [mz_fl_g _ _ _ _ hl, if_pos (by omega), show top + j - top = j by omega]
theorem mz_fl_cl {l : List Nat} (hl : ∀ w ∈ l, w < mz_B) (hl2 : ∀ w ∈ l, mz_cl 0 w = true) (hC : ∀ i, mz_cl n (mz_g M i) = true) (i : Nat) : mz_cl (n + 1) (mz_g (mz_fl l M top) i) = true := by
  rw [mz_fl_g _ _ _ _ hl]
  by_cases q : top ≤ i ∧ i < top + l.length
  · rw [if_pos q]
    have h : l.getD (i - top) 0 ∈ l := by
      have hz : i - top < l.length := by omega
      rw [List.getD_eq_getElem?_getD, List.getElem?_eq_getElem hz]
      exact List.getElem_mem _
    exact mz_cl_mono (Nat.zero_le _) (hl2 _ h)
  · rw [if_neg q]
    exact mz_cl_mono (Nat.le_succ _) (hC i)
theorem mz_ls_ad {nL q : Nat} {ls : Array Slot} {L : Nat} (h : mz_ls ad ao ρ n nL ls L) : mz_ls (mz_ad ad n q) ao ρ (n + 1) nL ls L :=
  ⟨h.1, h.2.1, fun i hi => by rw [mz_c_ad (h.2.2.2 i) mz_ad_lt]; exact h.2.2.1 i hi, fun i => mz_cl_mono (Nat.le_succ _) (h.2.2.2 i)⟩
/-- the word of the new cell -/
def mz_nr (n : Nat) : Nat := Nat.add 2 (Nat.mul 16 (Nat.succ n))
theorem mz_nr_ok {q : Nat} (hn : n < 1048576) : mz_c (mz_ad ad n q) ao ρ (mz_nr n) = .ref q ∧ mz_cl (n + 1) (mz_nr n) = true ∧ mz_R (mz_nr n) = true := by
  obtain ⟨h1, h2⟩ := mz_tag 2 (n + 1) (by decide)
  have hR : mz_R (mz_nr n) = true := by
    show Nat.beq ((2 + 16 * (n + 1)) % 16) 2 = true
    rw [h1]; rfl
  refine ⟨?_, mz_cl_of fun _ => Or.inl ?_, hR⟩
  · rw [mz_cR hR, show mz_nr n / 16 = n + 1 from h2, mz_r_new (by omega) (by omega), show n + 1 - 1 = n by omega, mz_ad_at]
  · rw [show mz_nr n / 16 = n + 1 from h2]; exact Nat.le_refl _
end MZ7
/-- a type's first word -/
def mz_dw : FieldType → Nat
  | .long => 3
  | .float => 7
  | .double => 8
  | .object _ => 2
  | .array _ => 2
  | _ => 1
theorem mz_dw_ok (ty : FieldType) (ad ao : Nat → Nat) (ρ : Nat → Int32) : mz_c ad ao ρ (mz_dw ty) = defaultValue ty ∧ mz_dw ty < mz_B ∧ mz_cl 0 (mz_dw ty) = true := by
  have h : mz_dw ty = 1 ∨ mz_dw ty = 2 ∨ mz_dw ty = 3 ∨ mz_dw ty = 7 ∨ mz_dw ty = 8 := by cases ty <;> simp [mz_dw]
  refine ⟨?_, ?_, ?_⟩
  · cases ty <;> simp [mz_dw, mz_c, defaultValue, mz_r] <;> rfl
  · rcases h with h | h | h | h | h <;> rw [h] <;> decide
  · rcases h with h | h | h | h | h <;> rw [h] <;> decide
section MZ8
variable {X : mz_Xt} {cc : ByteArray} {own : String} {Ts : List Jvm.Cond} {F : Nat → Nat × Nat} {pc L M K n top nc ns : Nat} {st : List Nat}
/-- the room of the walk -/
def mz_rm : mz_Xt → Room
  | (p, l, e, R, s, m, args, below, meth, c, nL, D, cA, ao, ρ, A, n0, ad0, Q) => R
theorem mz_new {ci idx N : Nat} {C0 : String} {T : u_T} {ty0 : Nat → FieldType} (C : mz_Cx X cc own Ts F) (hd : decode cc pc = .ok (.new idx, 3)) (hc : vwCl[ci]? = some (C0, T, N)) (hin : ∀ w ∈ u_ws C0 T N, w ∈ Ts) (hci : ci < 64)
    (hty : ∀ k, k < N → parseFieldDescriptor (T k).2.2.1 = some (ty0 k)) (h1 : mz_bf X (Jvm.Cond.classLink own idx C0)) (h2 : mz_bf X (Jvm.Cond.instantiable C0 N)) (h3 : mz_bf X (Jvm.Cond.initialized C0))
    (hr : mz_roomy n N top = true) (hcells : nc + 1 ≤ (mz_rm X).cells) (hslots : ns + N ≤ (mz_rm X).slots)
    (k : mz_G X (pc + 3) L (mz_nr n :: st) (mz_fl ((List.range N).map fun j => mz_dw (ty0 j)) M top) (mz_p K n (mz_mt ci N top)) (n + 1) (top + N) (nc + 1) (ns + N)) : mz_G X pc L st M K n top nc ns := by
  obtain ⟨p, l, e, R, s, m, args, below, meth, c, nL, D, cA, ao, ρ, A, n0, ad0, Q⟩ := X
  obtain ⟨hex, hb, hml, hown, hts, hK, hA, hF, hV⟩ := C
  intro ad ls H locs hn had hZ hls hst
  obtain ⟨hP, hD, hS, hW, hC⟩ := hZ
  have hnlt := (mz_roomy_ok hr).2.2
  have hl1 : ∀ w ∈ ((List.range N).map fun j => mz_dw (ty0 j)), w < mz_B := fun w hw => by
    obtain ⟨j, -, rfl⟩ := List.mem_map.mp hw
    exact (mz_dw_ok _ ad ao ρ).2.1
  have hl2 : ∀ w ∈ ((List.range N).map fun j => mz_dw (ty0 j)), mz_cl 0 w = true := fun w hw => by
    obtain ⟨j, -, rfl⟩ := List.mem_map.mp hw
    exact (mz_dw_ok _ ad ao ρ).2.2
  have hlen : ((List.range N).map fun j => mz_dw (ty0 j)).length = N := by simp
  refine va_new (fs := (List.range N).map fun j => defaultValue (ty0 j)) hex hb hts hin ty0 hty hown h1 h2 h3 hK hP hD hS hA hc (fun j hj => by unfold vp_V; rw [List.getD_eq_getElem?_getD, mz_rm_at hj]; rfl) hcells hslots hd fun q H1 hP1 hD1 hS1 => ?_
  have ew := mz_w_push (cA := cA) (ad := ad) (ao := ao) (ρ := ρ) (M := M) (K := K) (tag := ci) (q := q) (l := (List.range N).map fun j => mz_dw (ty0 j)) hW (by omega) (by rw [hlen]; exact hr) hl1 hC
  rw [hlen] at ew
  have ee : mz_e cA ci N (fun j => mz_c (mz_ad ad n q) ao ρ (((List.range N).map fun j => mz_dw (ty0 j)).getD j 0)) = .inr (ci, (List.range N).map fun j => defaultValue (ty0 j)) := by
    unfold mz_e
    rw [if_pos hci]
    congr 2
    refine List.map_congr_left fun j hj => ?_
    rw [List.getD_eq_getElem?_getD, mz_rm_at (List.mem_range.mp hj)]
    exact (mz_dw_ok _ _ ao ρ).1
  rw [ee] at ew
  rw [← ew] at hP1 hD1
  obtain ⟨r1, r2, r3⟩ := mz_nr_ok (ad := ad) (ao := ao) (ρ := ρ) (q := q) hnlt
  have z := k (mz_ad ad n q) ls H1 locs (by omega) (fun i hi => (mz_ad_lt i (by omega)).trans (had i hi)) ⟨hP1, hD1, hS1, mz_K_push hW (by omega) hr, fun i => mz_fl_cl hl1 hl2 hC i⟩ (mz_ls_ad hls) (mz_hd r2 fun w hw => mz_cl_mono (Nat.le_succ _) (hst w hw))
  rw [List.map_cons, r1, mz_st_ad hst mz_ad_lt] at z
  exact z
end MZ8
end
section
theorem mz_RA_one {s : State} {c1 c2 : ClassId} {ty : FieldType} (h1 : va_RA s c1 ty) (h2 : va_RA s c2 ty) : c1 = c2 := by
  cases ty with
  | object C =>
    obtain ⟨_, _, _, _, _, a⟩ := h1
    obtain ⟨_, _, _, _, _, b⟩ := h2
    exact Option.some.inj (a.symm.trans b)
  | _ => exact Option.some.inj (Eq.trans (Eq.symm h1) h2)
theorem mz_tys_len {cA : Nat → ClassId} : (mz_tys cA).length = 9 := by unfold mz_tys; simp
section MZ9
variable {X : mz_Xt} {cc : ByteArray} {own : String} {Ts : List Jvm.Cond} {F : Nat → Nat × Nat} {pc L M K n top nc ns : Nat} {st : List Nat}
theorem mz_alen {x t : Nat} (C : mz_Cx X cc own Ts F) (hd : decode cc pc = .ok (.arraylength, 1)) (hx : mz_ref n x = true) (ht : mz_ct K (mz_k x) = 64 + t) (h9 : t < 9) (k : mz_G X (pc + 1) L (mz_n (mz_cn K (mz_k x)) :: st) M K n top nc ns) : mz_G X pc L (x :: st) M K n top nc ns := by
  obtain ⟨p, l, e, R, s, m, args, below, meth, c, nL, D, cA, ao, ρ, A, n0, ad0, Q⟩ := X
  obtain ⟨hex, hb, hml, hown, hts, hK, hA, hF, hV⟩ := C
  intro ad ls H locs hn had hZ hls hst
  obtain ⟨hP, hD, hS, hW, hC⟩ := hZ
  obtain ⟨e1, hk⟩ := mz_ref_c (ad := ad) (ao := ao) (ρ := ρ) hx
  have q := k ad ls H locs hn had ⟨hP, hD, hS, hW, hC⟩ hls (mz_hd (mz_cl_I (mz_nw (ρ := ρ) _).1) (List.forall_mem_cons.mp hst).2)
  rw [List.map_cons, mz_cI (mz_nw (ρ := ρ) _).1, (mz_nw (ρ := ρ) _).2] at q
  rw [List.map_cons, e1]
  have he := mz_w_at (cA := cA) (ad := ad) (ao := ao) (ρ := ρ) (M := M) (K := K) hk
  rw [mz_E_arr ht] at he
  exact va_alen hex hb hK hP (mz_k x) t he (mz_tys_at h9) rfl hd q
/-- the words of a new array -/
theorem mz_arr_done {t N q w : Nat} {p : Program} {l : Launch} {e : Env} {R : Room} {s : State} {m : MethodId} {args : Array Value} {below : List Frame} {meth : Method} {c : Code} {nL : Nat} {D : va_G} {cA : Nat → ClassId} {ao : Nat → Nat} {ρ : Nat → Int32} {A : Nat → Prop} {n0 : Nat} {ad0 : Nat → Nat} {Q : State → Prop}
    {ad : Nat → Nat} {ls : Array Slot} {H1 : Heap} {locs : List Loc} {pc2 : Nat}
    (hr : mz_roomy n N top = true) (ht : t < 9) (hw1 : w < mz_B) (hw2 : mz_cl 0 w = true) (hn : n0 ≤ n) (had : ∀ k, k < n0 → ad k = ad0 k) (hW : mz_K n K top) (hC : ∀ i, mz_cl n (mz_g M i) = true) (hls : mz_ls ad ao ρ n nL ls L) (hst : ∀ v ∈ st, mz_cl n v = true) (hS1 : va_S A s.heap H1 locs)
    {z : (Nat → Int32) ⊕ (Nat → Int64) ⊕ (Nat → UInt32) ⊕ (Nat → UInt64) ⊕ (Nat → Option Nat)} (hz : mz_pic t N (fun j => mz_c (mz_ad ad n q) ao ρ ((List.replicate N w).getD j 0)) = z)
    (hP1 : va_P D vwCl (mz_w cA ad ao ρ M K n ++ [(q, .inl (cA t, N, z))]) H1) (hD1 : va_D A (mz_w cA ad ao ρ M K n ++ [(q, .inl (cA t, N, z))]))
    (k : mz_G (p, l, e, R, s, m, args, below, meth, c, nL, D, cA, ao, ρ, A, n0, ad0, Q) pc2 L (mz_nr n :: st) (mz_fl (List.replicate N w) M top) (mz_p K n (mz_mt (64 + t) N top)) (n + 1) (top + N) nc ns) :
    W p l e R s m args below meth c H1 locs nc ns Q (F0 m pc2 ls (.ref q :: st.map (mz_c ad ao ρ))) := by
  have hnlt := (mz_roomy_ok hr).2.2
  have hl1 : ∀ v ∈ List.replicate N w, v < mz_B := fun v hv => by rw [List.eq_of_mem_replicate hv]; exact hw1
  have hl2 : ∀ v ∈ List.replicate N w, mz_cl 0 v = true := fun v hv => by rw [List.eq_of_mem_replicate hv]; exact hw2
  have hlen : (List.replicate N w).length = N := List.length_replicate
  have ew := mz_w_push (cA := cA) (ad := ad) (ao := ao) (ρ := ρ) (M := M) (K := K) (tag := 64 + t) (q := q) (l := List.replicate N w) hW (by omega) (by rw [hlen]; exact hr) hl1 hC
  rw [hlen] at ew
  have ee : mz_e cA (64 + t) N (fun j => mz_c (mz_ad ad n q) ao ρ ((List.replicate N w).getD j 0)) = .inl (cA t, N, z) := by
    unfold mz_e
    rw [if_neg (by omega), show 64 + t - 64 = t by omega, hz]
  rw [ee] at ew
  rw [← ew] at hP1 hD1
  obtain ⟨r1, r2, r3⟩ := mz_nr_ok (ad := ad) (ao := ao) (ρ := ρ) (q := q) hnlt
  have y := k (mz_ad ad n q) ls H1 locs (by omega) (fun i hi => (mz_ad_lt i (by omega)).trans (had i hi)) ⟨hP1, hD1, hS1, mz_K_push hW (by omega) hr, fun i => mz_fl_cl hl1 hl2 hC i⟩ (mz_ls_ad hls) (mz_hd r2 fun v hv => mz_cl_mono (Nat.le_succ _) (hst v hv))
  rw [List.map_cons, r1, mz_st_ad hst mz_ad_lt] at y
  exact y
theorem mz_rep_at {N w j : Nat} (h : j < N) : (List.replicate N w).getD j 0 = w := by
  rw [List.getD_eq_getElem?_getD, List.getElem?_replicate, if_pos h]; rfl
theorem mz_newarr {i t : Nat} {aty : ArrayType} (C : mz_Cx X cc own Ts F) (hd : decode cc pc = .ok (.newarray aty, 2)) (ht : t = 0 ∨ t = 1 ∨ t = 2 ∨ t = 3 ∨ t = 4) (hty : newarray.typeOf aty = mz_ty.getD t .int) (ha : mz_bf X (Jvm.Cond.arrayClass (newarray.typeOf aty)))
    (hi : mz_sm i = true) (hr : mz_roomy n (mz_q i) top = true) (hcells : nc + 1 ≤ (mz_rm X).cells) (hslots : ns + mz_q i ≤ (mz_rm X).slots)
    (k : mz_G X (pc + 2) L (mz_nr n :: st) (mz_fl (List.replicate (mz_q i) (mz_dw (mz_ty.getD t .int))) M top) (mz_p K n (mz_mt (64 + t) (mz_q i) top)) (n + 1) (top + mz_q i) (nc + 1) (ns + mz_q i)) : mz_G X pc L (i :: st) M K n top nc ns := by
  obtain ⟨p, l, e, R, s, m, args, below, meth, c, nL, D, cA, ao, ρ, A, n0, ad0, Q⟩ := X
  obtain ⟨hex, hb, hml, hown, hts, hK, hA, hF, hV⟩ := C
  intro ad ls H locs hn had hZ hls hst
  obtain ⟨hP, hD, hS, hW, hC⟩ := hZ
  obtain ⟨h1, h2⟩ := mz_sm_ok hi
  obtain ⟨g1, g2⟩ := mz_s1 (ρ := ρ) h1
  have hst2 := (List.forall_mem_cons.mp hst).2
  rw [List.map_cons, mz_cI g1, g2]
  have hN := (mz_roomy_ok hr).1
  have t9 : t < 9 := by omega
  have fin : ∀ (q : Nat) (c1 : ClassId) (H1 : Heap) (a0 : vp_A) (ty : FieldType), ty = mz_ty.getD t .int → (∀ qq, a0 = (mz_q i, mz_pic t (mz_q i) (fun j => mz_c (mz_ad ad n qq) ao ρ ((List.replicate (mz_q i) (mz_dw (mz_ty.getD t .int))).getD j 0)))) → va_K D vwCl (mz_tys cA ++ [(c1, ty)]) s → va_P D vwCl (mz_w cA ad ao ρ M K n ++ [(q, .inl (c1, a0))]) H1 → va_D A (mz_w cA ad ao ρ M K n ++ [(q, .inl (c1, a0))]) → va_S A s.heap H1 locs →
      W p l e R s m args below meth c H1 locs (nc + 1) (ns + mz_q i) Q (F0 m (pc + 2) ls (.ref q :: st.map (mz_c ad ao ρ))) := fun q c1 H1 a0 ty ety ea hK1 hP1 hD1 hS1 => by
    have c2 : c1 = cA t := by
      refine mz_RA_one (s := s) (ty := mz_ty.getD t .int) ?_ (hK.2 t _ (mz_tys_at t9)).2
      rw [← ety]
      exact (hK1.2 9 (c1, ty) (by rw [List.getElem?_append_right (by rw [mz_tys_len]; exact Nat.le_refl _), mz_tys_len]; rfl)).2
    subst c2
    have ea := ea q
    rw [ea] at hP1 hD1
    exact mz_arr_done hr t9 (mz_dw_ok _ ad ao ρ).2.1 (mz_dw_ok _ ad ao ρ).2.2 hn had hW hC hls hst2 hS1 rfl hP1 hD1 k
  have hclamp : (nI (mz_q i)).toNatClampNeg = mz_q i := nI_clamp h2
  have hng : ¬ nI (mz_q i) < 0 := nI_pos h2
  have ev : ∀ {β : Type} (u : Value → β) (d : β) (qq : Nat), u (defaultValue (mz_ty.getD t .int)) = d → (fun j => if j < mz_q i then u (mz_c (mz_ad ad n qq) ao ρ ((List.replicate (mz_q i) (mz_dw (mz_ty.getD t .int))).getD j 0)) else d) = fun _ => d := fun u d qq hu => by
    funext j
    by_cases hj : j < mz_q i
    · rw [if_pos hj, mz_rep_at hj, (mz_dw_ok _ _ ao ρ).1, hu]
    · rw [if_neg hj]
  rcases ht with rfl | rfl | rfl | rfl | rfl
  · refine va_newa (a0 := (mz_q i, .inl fun _ => 0)) hex hb ha hty hK hP hD hS hA (fun _ => rfl) hng hclamp (by show mz_q i * 4 ≤ _; omega) hcells hslots hd fun q c1 H1 => fin q c1 H1 _ _ rfl fun qq => ?_
    rw [mz_pic_i (Or.inl rfl), ev mz_toI 0 qq rfl]
  · refine va_newa (a0 := (mz_q i, .inr (.inl fun _ => 0))) hex hb ha hty hK hP hD hS hA (fun _ => rfl) hng hclamp (by show mz_q i * 8 ≤ _; omega) hcells hslots hd fun q c1 H1 => fin q c1 H1 _ _ rfl fun qq => ?_
    rw [mz_pic_l, ev mz_toL 0 qq rfl]
  · refine va_newa (a0 := (mz_q i, .inl fun _ => 0)) hex hb ha hty hK hP hD hS hA (fun _ => rfl) hng hclamp (by show mz_q i * 2 ≤ _; omega) hcells hslots hd fun q c1 H1 => fin q c1 H1 _ _ rfl fun qq => ?_
    rw [mz_pic_i (Or.inr (Or.inl rfl)), ev mz_toI 0 qq rfl]
  · refine va_newa (a0 := (mz_q i, .inl fun _ => 0)) hex hb ha hty hK hP hD hS hA (fun _ => rfl) hng hclamp (by show mz_q i * 1 ≤ _; omega) hcells hslots hd fun q c1 H1 => fin q c1 H1 _ _ rfl fun qq => ?_
    rw [mz_pic_i (Or.inr (Or.inr rfl)), ev mz_toI 0 qq rfl]
  · refine va_newa (a0 := (mz_q i, .inr (.inr (.inr (.inl fun _ => 0))))) hex hb ha hty hK hP hD hS hA (fun _ => rfl) hng hclamp (by show mz_q i * 8 ≤ _; omega) hcells hslots hd fun q c1 H1 => fin q c1 H1 _ _ rfl fun qq => ?_
    have e4 : ∀ f : Nat → Value, mz_pic 4 (mz_q i) f = .inr (.inr (.inr (.inl fun j => if j < mz_q i then mz_toD (f j) else 0))) := fun f => rfl
    rw [e4, ev mz_toD 0 qq rfl]
theorem mz_anewarr {i t idx : Nat} {C0 : String} (C : mz_Cx X cc own Ts F) (hd : decode cc pc = .ok (.anewarray idx, 3)) (h5 : 5 ≤ t) (h9 : t < 9) (hty : mz_ty.getD t .int = .object C0) (h1 : mz_bf X (Jvm.Cond.classLink own idx C0)) (h2 : mz_bf X (Jvm.Cond.arrayOver (.object C0)))
    (hi : mz_sm i = true) (hr : mz_roomy n (mz_q i) top = true) (hcells : nc + 1 ≤ (mz_rm X).cells) (hslots : ns + mz_q i ≤ (mz_rm X).slots)
    (k : mz_G X (pc + 3) L (mz_nr n :: st) (mz_fl (List.replicate (mz_q i) 2) M top) (mz_p K n (mz_mt (64 + t) (mz_q i) top)) (n + 1) (top + mz_q i) (nc + 1) (ns + mz_q i)) : mz_G X pc L (i :: st) M K n top nc ns := by
  obtain ⟨p, l, e, R, s, m, args, below, meth, c, nL, D, cA, ao, ρ, A, n0, ad0, Q⟩ := X
  obtain ⟨hex, hb, hml, hown, hts, hK, hA, hF, hV⟩ := C
  intro ad ls H locs hn had hZ hls hst
  obtain ⟨hP, hD, hS, hW, hC⟩ := hZ
  obtain ⟨i1, i2⟩ := mz_sm_ok hi
  obtain ⟨g1, g2⟩ := mz_s1 (ρ := ρ) i1
  have hst2 := (List.forall_mem_cons.mp hst).2
  rw [List.map_cons, mz_cI g1, g2]
  have hN := (mz_roomy_ok hr).1
  refine va_newq hex hb hown h1 (va_AO.of h2) hK hP hD hS hA (nI_pos i2) (nI_clamp i2) (by omega) hcells hslots hd fun q c1 H1 hK1 hP1 hD1 hS1 => ?_
  have c2 : c1 = cA t := by
    refine mz_RA_one (s := s) (ty := .object C0) ?_ (by have z := (hK.2 t _ (mz_tys_at h9)).2; rw [hty] at z; exact z)
    exact (hK1.2 9 (c1, .object C0) (by rw [List.getElem?_append_right (by rw [mz_tys_len]; exact Nat.le_refl _), mz_tys_len]; rfl)).2
  subst c2
  refine mz_arr_done (z := .inr (.inr (.inr (.inr fun _ => none)))) hr h9 (by decide) (by decide) hn had hW hC hls hst2 hS1 ?_ hP1 hD1 k
  rw [mz_pic_q h5]
  congr 4
  funext j
  by_cases hj : j < mz_q i
  · rw [if_pos hj, mz_rep_at hj]
    rfl
  · rw [if_neg hj]
end MZ9
end
section
section MZA
variable {X : mz_Xt} {cc : ByteArray} {own : String} {Ts : List Jvm.Cond} {F : Nat → Nat × Nat} {pc L M K n top nc ns : Nat} {st : List Nat}
theorem mz_last {x i v : Nat} (C : mz_Cx X cc own Ts F) (hd : decode cc pc = .ok (.lastore, 1)) (hx : mz_ref n x = true) (ht : mz_ct K (mz_k x) = 64 + 1) (hi : mz_sm i = true) (hl : mz_q i < mz_cn K (mz_k x))
    (hw : mz_L v = true) (hv : v < mz_B) (k : mz_G X (pc + 1) L st (mz_p M (mz_cb K (mz_k x) + mz_q i) v) K n top nc ns) : mz_G X pc L (v :: i :: x :: st) M K n top nc ns := by
  obtain ⟨p, l, e, R, s, m, args, below, meth, c, nL, D, cA, ao, ρ, A, n0, ad0, Q⟩ := X
  obtain ⟨hex, hb, hml, hown, hts, hK, hA, hF, hV⟩ := C
  intro ad ls H locs hn had hZ hls hst
  obtain ⟨hP, hD, hS, hW, hC⟩ := hZ
  obtain ⟨e1, hk⟩ := mz_ref_c (ad := ad) (ao := ao) (ρ := ρ) hx
  obtain ⟨i1, i2, i3⟩ := mz_ix (ρ := ρ) hi hl
  obtain ⟨s1, s2⟩ := List.forall_mem_cons.mp hst
  have hst' := (List.forall_mem_cons.mp (List.forall_mem_cons.mp s2).2).2
  have he := mz_w_at (cA := cA) (ad := ad) (ao := ao) (ρ := ρ) (M := M) (K := K) hk
  rw [mz_E_arr ht, mz_pic_l] at he
  rw [List.map_cons, List.map_cons, List.map_cons, e1, mz_cI i1, mz_cL hw]
  refine va_last hex hb hK hP hD hS (mz_k x) 1 he (mz_tys_at (by decide)) i2 hd fun H1 locs1 hP1 hD1 hS1 => ?_
  have e3 : vp_updL (fun j => if j < mz_cn K (mz_k x) then mz_toL (mz_c ad ao ρ (mz_g M (mz_cb K (mz_k x) + j))) else 0) (mz_i ρ i).toNatClampNeg (mz_l ρ v) = (fun q => if q < mz_cn K (mz_k x) then mz_toL (mz_c ad ao ρ (mz_g (mz_p M (mz_cb K (mz_k x) + mz_q i) v) (mz_cb K (mz_k x) + q))) else 0) := by
    rw [i3]
    exact mz_up hl hv (by rw [mz_cL hw]; rfl)
  have e2 := mz_w_set (cA := cA) (ad := ad) (ao := ao) (ρ := ρ) (M := M) hW hk hl hv (mz_arr_set (cA := cA) (ad := ad) (ao := ao) (ρ := ρ) (M := M) (j := mz_q i) (v := v) (t := 1) ht mz_pic_l.symm)
  rw [e3, e2] at hP1 hD1
  exact k ad ls H1 locs1 hn had ⟨hP1, hD1, hS1, hW, fun i => mz_gp_cl hv s1 hC⟩ hls hst'
theorem mz_aast {x i v t : Nat} (C : mz_Cx X cc own Ts F) (hd : decode cc pc = .ok (.aastore, 1)) (hx : mz_ref n x = true) (ht : mz_ct K (mz_k x) = 64 + t) (h5 : 5 ≤ t) (h9 : t < 9) (hi : mz_sm i = true) (hl : mz_q i < mz_cn K (mz_k x))
    (hw : (mz_R v = true ∧ mz_q v = 0) ∨ (mz_ref n v = true ∧ ∃ (ci : Nat) (r : vw_C), mz_ct K (mz_k v) = ci ∧ ci < 64 ∧ vwCl[ci]? = some r ∧ (mz_ty.getD t .int = .object r.1 ∨ ∃ E : String, mz_ty.getD t .int = .object E ∧ mz_bf X (Jvm.Cond.castable r.1 E))))
    (hv : v < mz_B) (k : mz_G X (pc + 1) L st (mz_p M (mz_cb K (mz_k x) + mz_q i) v) K n top nc ns) : mz_G X pc L (v :: i :: x :: st) M K n top nc ns := by
  obtain ⟨p, l, e, R, s, m, args, below, meth, c, nL, D, cA, ao, ρ, A, n0, ad0, Q⟩ := X
  obtain ⟨hex, hb, hml, hown, hts, hK, hA, hF, hV⟩ := C
  intro ad ls H locs hn had hZ hls hst
  obtain ⟨hP, hD, hS, hW, hC⟩ := hZ
  obtain ⟨e1, hk⟩ := mz_ref_c (ad := ad) (ao := ao) (ρ := ρ) hx
  obtain ⟨i1, i2, i3⟩ := mz_ix (ρ := ρ) hi hl
  obtain ⟨s1, s2⟩ := List.forall_mem_cons.mp hst
  have hst' := (List.forall_mem_cons.mp (List.forall_mem_cons.mp s2).2).2
  have he := mz_w_at (cA := cA) (ad := ad) (ao := ao) (ρ := ρ) (M := M) (K := K) hk
  rw [mz_E_arr ht, mz_pic_q h5] at he
  have hR : mz_R v = true := by
    rcases hw with ⟨h, -⟩ | ⟨h, -⟩
    · exact h
    · exact (mz_ref_ok h).1
  have fin : ∀ (H1 : Heap) (locs1 : List Loc) (z : Option Nat), mz_ro ad ao (mz_q v) = z →
      va_P D vwCl ((mz_w cA ad ao ρ M K n).set (mz_k x) (ad (mz_k x), .inl (cA t, mz_cn K (mz_k x), .inr (.inr (.inr (.inr (va_up (fun j => if j < mz_cn K (mz_k x) then mz_toR (mz_c ad ao ρ (mz_g M (mz_cb K (mz_k x) + j))) else none) (mz_i ρ i).toNatClampNeg z))))))) H1 →
      va_D A ((mz_w cA ad ao ρ M K n).set (mz_k x) (ad (mz_k x), .inl (cA t, mz_cn K (mz_k x), .inr (.inr (.inr (.inr (va_up (fun j => if j < mz_cn K (mz_k x) then mz_toR (mz_c ad ao ρ (mz_g M (mz_cb K (mz_k x) + j))) else none) (mz_i ρ i).toNatClampNeg z))))))) →
      va_S A s.heap H1 locs1 → W p l e R s m args below meth c H1 locs1 nc ns Q (F0 m (pc + 1) ls (st.map (mz_c ad ao ρ))) := fun H1 locs1 z hz hP1 hD1 hS1 => by
    have e3 : va_up (fun j => if j < mz_cn K (mz_k x) then mz_toR (mz_c ad ao ρ (mz_g M (mz_cb K (mz_k x) + j))) else none) (mz_i ρ i).toNatClampNeg z = (fun q => if q < mz_cn K (mz_k x) then mz_toR (mz_c ad ao ρ (mz_g (mz_p M (mz_cb K (mz_k x) + mz_q i) v) (mz_cb K (mz_k x) + q))) else none) := by
      rw [i3, ← hz]
      exact mz_up hl hv (by rw [mz_cRq hR, mz_toR_r])
    have e2 := mz_w_set (cA := cA) (ad := ad) (ao := ao) (ρ := ρ) (M := M) hW hk hl hv (mz_arr_set (cA := cA) (ad := ad) (ao := ao) (ρ := ρ) (M := M) (j := mz_q i) (v := v) (t := t) ht (mz_pic_q h5).symm)
    rw [e3, e2] at hP1 hD1
    exact k ad ls H1 locs1 hn had ⟨hP1, hD1, hS1, hW, fun i => mz_gp_cl hv s1 hC⟩ hls hst'
  rw [List.map_cons, List.map_cons, List.map_cons, e1, mz_cI i1]
  rcases hw with ⟨-, h0⟩ | ⟨hrv, ci, r, hct, hci, hcr, hor⟩
  · obtain ⟨C0, hC0⟩ := mz_ty_obj h5 h9
    have htt := mz_tys_at (cA := cA) h9
    rw [hC0] at htt
    have ez : mz_ro ad ao (mz_q v) = none := by unfold mz_ro; rw [if_pos h0]
    have en : mz_c ad ao ρ v = .null := by rw [mz_cRq hR, mz_r_rf, ez]; rfl
    rw [en]
    exact va_astqN hex hb hK hP hD hS (mz_k x) t he htt i2 hd fun H1 locs1 => fin H1 locs1 _ ez
  · obtain ⟨v1, hkv⟩ := mz_ref_c (ad := ad) (ao := ao) (ρ := ρ) hrv
    obtain ⟨-, q0, q1, q2⟩ := mz_ref_ok hrv
    have ez : mz_ro ad ao (mz_q v) = some (ad (mz_k v)) := by unfold mz_ro; rw [if_neg q0, if_pos q2]; rfl
    have hev := mz_w_at (cA := cA) (ad := ad) (ao := ao) (ρ := ρ) (M := M) (K := K) hkv
    rw [mz_E_obj hct hci] at hev
    rw [v1]
    rcases hor with hty | ⟨E, hty, hca⟩
    · have htt := mz_tys_at (cA := cA) h9
      rw [hty] at htt
      exact va_astq hex hb hK hP hD hS (mz_k x) t (mz_k v) ci he htt hev hcr i2 hd fun H1 locs1 => fin H1 locs1 _ ez
    · have htt := mz_tys_at (cA := cA) h9
      rw [hty] at htt
      exact va_astqO hex hb hK hP hD hS (mz_k x) t (mz_k v) ci he htt (va_any rfl hca) hev hcr i2 hd fun H1 locs1 => fin H1 locs1 _ ez
theorem mz_cast {x ci idx : Nat} {nm : String} {r : vw_C} (C : mz_Cx X cc own Ts F) (hd : decode cc pc = .ok (.checkcast idx, 3)) (hc : vwCl[ci]? = some r) (hci : ci < 64) (hlink : mz_bf X (Jvm.Cond.classLink own idx nm)) (hca : mz_bf X (Jvm.Cond.castable r.1 nm))
    (hx : mz_ref n x = true) (ht : mz_ct K (mz_k x) = ci) (k : mz_G X (pc + 3) L (x :: st) M K n top nc ns) : mz_G X pc L (x :: st) M K n top nc ns := by
  obtain ⟨p, l, e, R, s, m, args, below, meth, c, nL, D, cA, ao, ρ, A, n0, ad0, Q⟩ := X
  obtain ⟨hex, hb, hml, hown, hts, hK, hA, hF, hV⟩ := C
  intro ad ls H locs hn had hZ hls hst
  have q := k ad ls H locs hn had hZ hls hst
  obtain ⟨hP, hD, hS, hW, hC⟩ := hZ
  obtain ⟨e1, hk⟩ := mz_ref_c (ad := ad) (ao := ao) (ρ := ρ) hx
  rw [List.map_cons, e1] at q ⊢
  have he := mz_w_at (cA := cA) (ad := ad) (ao := ao) (ρ := ρ) (M := M) (K := K) hk
  rw [mz_E_obj ht hci] at he
  exact va_castY hex hb hown hlink (va_any rfl hca) (va_recv hK hP hc he) hd q
end MZA
end
section
/-! the String constants: all of them; those whose texts are read, with their bytes -/
def mz_msgs : List (String × Nat × String) := [("Hundredward", 327, "no such plot"), ("Hundredward", 350, "out of range"), ("Hundredward$Permits", 17, "rhsfw"), ("Hundredward", 51, "no such kind"), ("Hundredward", 72, "built on, or no money"), ("Hundredward", 98, "nothing built, or in use"), ("Hundredward", 108, "no such matter"), ("Hundredward", 140, "nobody has a home there"), ("Hundredward", 160, "no way"), ("Hundredward", 166, "enough households came"), ("Hundredward", 332, "there never was such a household"), ("Hundredward", 337, "it is not there any more"), ("Hundredward", 200, "no place, no number or no money for a firm"), ("Hundredward", 342, "there never was such a firm"), ("Hundredward", 244, "the bank has not so much"), ("Hundredward", 348, "there never was such an account"), ("Hundredward", 274, "no such entry or number"), ("Hundredward", 298, "no households"), ("Hundredward", 307, "nobody has a home"), ("HundredwardModel", 43, "rhsfw"), ("HundredwardModel", 226, "isrt"), ("HundredwardModel", 305, "hsf")]
def mz_strs : List (String × Nat × String × List Int32) := [("Hundredward$Permits", 17, "rhsfw", [114, 104, 115, 102, 119]), ("HundredwardModel", 43, "rhsfw", [114, 104, 115, 102, 119]), ("HundredwardModel", 226, "isrt", [105, 115, 114, 116]), ("HundredwardModel", 305, "hsf", [104, 115, 102])]
end
section
/-! WHAT LIES THERE FROM THE START AND IS NEVER WRITTEN: statics, String constants, words of the tables that aren't carried by themselves. ao 0: ArrayList's empty array; ao (1 + 2 j): the j-th text, ao (2 + 2 j): its bytes; ao 99: the script -/
def mz_nk : Jvm.Cond → Bool
  | .fieldLinkNest .. => true
  | .methodLinkNest .. => true
  | .castable .. => true
  | .declares _ => true
  | _ => false
theorem mz_nk_warm {w : Jvm.Cond} {s U : State} (hw : mz_nk w = true) (hW : s.WarmedH U.vm) (h : va_Nw w s) : va_Nw w U := by
  cases w with
  | fieldLinkNest a b c d e f => exact va_Nw.warmF hW h
  | methodLinkNest a b c d => exact va_Nw.warmM hW h
  | castable a b => exact va_Nw.warmC hW h
  | declares a => exact va_Nw.warmD hW h
  | _ => cases hw
def mz_hasN : MethodName := ⟨"java/util/Iterator", "hasNext", "()Z"⟩
def mz_nextN : MethodName := ⟨"java/util/Iterator", "next", "()Ljava/lang/Object;"⟩
/-- what the class throws -/
def mz_xs : List String := ["java/lang/IndexOutOfBoundsException", "java/lang/IllegalArgumentException", "java/lang/IllegalStateException", "java/util/NoSuchElementException", "java/lang/ArithmeticException"]
def mz_itr : String := "java/util/ArrayList$Itr"
def mz_O (ao : Nat → Nat) (A : Nat → Prop) (U : State) (H : Heap) : Prop :=
  (vx_Zq Bundle.tN "UNASSIGNED_STACK" Bundle.steD A U H ∧ vx_Zq Bundle.tN "SUPPRESSED_SENTINEL" Bundle.listD A U H) ∧
  (va_Z "java/util/ArrayList" "DEFAULTCAPACITY_EMPTY_ELEMENTDATA" "[Ljava/lang/Object;" (.ref (ao 0)) A U H ∧ va_T (.object "java/lang/Object") (ao 0) 0 (fun _ => .null) A U H) ∧
  va_Z "java/lang/String" "COMPACT_STRINGS" "Z" (.int 1) A U H ∧
  (∀ q ∈ mz_msgs, ∃ a, vk_R q.1 q.2.1 q.2.2 a U) ∧
  (∀ (j : Nat) (q : String × Nat × String × List Int32), mz_strs[j]? = some q → vk_R q.1 q.2.1 q.2.2.1 (ao (1 + 2 * j)) U ∧ va_O "java/lang/String" (ao (1 + 2 * j)) A U H ∧ va_OF "java/lang/String" "coder" "B" (.int 0) (ao (1 + 2 * j)) A U H ∧
    va_OF "java/lang/String" "value" "[B" (.ref (ao (2 + 2 * j))) (ao (1 + 2 * j)) A U H ∧ va_T .byte (ao (2 + 2 * j)) q.2.2.2.length (fun i => .int (q.2.2.2.getD i 0)) A U H) ∧
  (∀ w ∈ lw_tbl, mz_nk w = true → va_Nw w U) ∧ (∀ C0, Jvm.Cond.arrayOver (.object C0) ∈ lw_tbl → va_AO C0 U) ∧
  va_Fw mz_itr mz_hasN ⟨mz_itr, "hasNext", "()Z"⟩ U ∧ va_Fw mz_itr mz_nextN ⟨mz_itr, "next", "()Ljava/lang/Object;"⟩ U ∧ ∀ E ∈ mz_xs, ∀ T ∈ mz_xs, E ≠ T → va_Nc E T U
theorem mz_O_call {ao : Nat → Nat} {A B : Nat → Prop} {s U : State} {H : Heap} {locs : List Loc} (h : mz_O ao A s s.heap) (hS : va_S A s.heap H locs) (hU : U.heap = H) (hW : s.WarmedH U.vm) (hAB : ∀ q, B q → A q) : mz_O ao B U U.heap := by
  obtain ⟨⟨h1, h2⟩, ⟨h3, h4⟩, h5, h6, h7, h8, h9, h10, h11, h12⟩ := h
  have hq := hS.2.1
  have al := hW.alike
  rw [hU]
  refine ⟨⟨?_, ?_⟩, ⟨?_, ?_⟩, ?_, ?_, ?_, ?_, ?_, ?_, ?_, ?_⟩
  · exact vx_Zq.narrow (vx_Zq.moved al (vx_Zq.kept h1 hq)) hAB
  · exact vx_Zq.narrow (vx_Zq.moved al (vx_Zq.kept h2 hq)) hAB
  · exact va_Z.narrow (va_Z.moved al (va_Z.kept h3 hq)) hAB
  · exact va_T.narrow (va_T.moved al (va_T.kept h4 hq)) hAB
  · exact va_Z.narrow (va_Z.moved al (va_Z.kept h5 hq)) hAB
  · intro q hq2
    obtain ⟨a, ha⟩ := h6 q hq2
    exact ⟨a, vk_R.warm hW ha⟩
  · intro j q hj
    obtain ⟨g1, g2, g3, g4, g5⟩ := h7 j q hj
    exact ⟨vk_R.warm hW g1, va_O.narrow (va_O.moved al (va_O.kept g2 hq)) hAB, va_OF.narrow (va_OF.moved al (va_OF.kept g3 hq)) hAB, va_OF.narrow (va_OF.moved al (va_OF.kept g4 hq)) hAB, va_T.narrow (va_T.moved al (va_T.kept g5 hq)) hAB⟩
  · exact fun w hw hn => mz_nk_warm hn hW (h8 w hw hn)
  · exact fun C0 hC => va_AO.moved al (h9 C0 hC)
  · exact va_Fw.moved (by decide) al h10
  · exact va_Fw.moved (by decide) al h11
  · exact fun E hE T hT hne => va_Nc.moved al (h12 E hE T hT hne)
section MZB
variable {X : mz_Xt} {cc : ByteArray} {own : String} {Ts : List Jvm.Cond} {F : Nat → Nat × Nat} {pc L M K n top nc ns : Nat} {st : List Nat}
/-- what lies there, at the walk's start -/
def mz_OX : mz_Xt → Prop
  | (p, l, e, R, s, m, args, below, meth, c, nL, D, cA, ao, ρ, A, n0, ad0, Q) => mz_O ao A s s.heap
/-- the word of the old thing i -/
def mz_ow (i : Nat) : Nat := Nat.add 2 (Nat.mul 16 (Nat.add 1048577 i))
theorem mz_ow_ok {ad ao : Nat → Nat} {ρ : Nat → Int32} (i : Nat) : mz_c ad ao ρ (mz_ow i) = .ref (ao i) ∧ mz_cl n (mz_ow i) = true := by
  obtain ⟨h1, h2⟩ := mz_tag 2 (1048577 + i) (by decide)
  have hR : mz_R (mz_ow i) = true := by
    show Nat.beq ((2 + 16 * (1048577 + i)) % 16) 2 = true
    rw [h1]; rfl
  refine ⟨?_, mz_cl_of fun _ => Or.inr ?_⟩
  · rw [mz_cR hR, show mz_ow i / 16 = 1048577 + i from h2, mz_r_old (by omega), show 1048577 + i - 1048577 = i by omega]
  · rw [show mz_ow i / 16 = 1048577 + i from h2]; omega
theorem mz_getE {idx : Nat} (C : mz_Cx X cc own Ts F) (O : mz_OX X) (hd : decode cc pc = .ok (.getstatic idx, 3)) (hlink : mz_bf X (Jvm.Cond.fieldLink own idx "java/util/ArrayList" "DEFAULTCAPACITY_EMPTY_ELEMENTDATA" "[Ljava/lang/Object;")) (k : mz_G X (pc + 3) L (mz_ow 0 :: st) M K n top nc ns) : mz_G X pc L st M K n top nc ns := by
  obtain ⟨p, l, e, R, s, m, args, below, meth, c, nL, D, cA, ao, ρ, A, n0, ad0, Q⟩ := X
  obtain ⟨hex, hb, hml, hown, hts, hK, hA, hF, hV⟩ := C
  intro ad ls H locs hn had hZ hls hst
  obtain ⟨z1, z2⟩ := mz_ow_ok (n := n) (ad := ad) (ao := ao) (ρ := ρ) 0
  have q := k ad ls H locs hn had hZ hls (mz_hd z2 hst)
  rw [List.map_cons, z1] at q
  exact va_gets hex hb O.2.1.1 hZ.2.2.1 hown hlink (fun _ h => h) hd q
theorem mz_getCS {idx : Nat} (C : mz_Cx X cc own Ts F) (O : mz_OX X) (hd : decode cc pc = .ok (.getstatic idx, 3)) (hlink : mz_bf X (Jvm.Cond.fieldLink own idx "java/lang/String" "COMPACT_STRINGS" "Z")) (k : mz_G X (pc + 3) L (mz_n 1 :: st) M K n top nc ns) : mz_G X pc L st M K n top nc ns := by
  obtain ⟨p, l, e, R, s, m, args, below, meth, c, nL, D, cA, ao, ρ, A, n0, ad0, Q⟩ := X
  obtain ⟨hex, hb, hml, hown, hts, hK, hA, hF, hV⟩ := C
  intro ad ls H locs hn had hZ hls hst
  have q := k ad ls H locs hn had hZ hls (mz_hd (mz_cl_I (mz_nw (ρ := ρ) 1).1) hst)
  rw [List.map_cons, mz_cI (mz_nw (ρ := ρ) 1).1, (mz_nw (ρ := ρ) 1).2] at q
  exact va_gets hex hb O.2.2.1 hZ.2.2.1 hown hlink (fun _ h => h) hd q
theorem mz_ldcs {idx j : Nat} {tx : String} {bs : List Int32} (C : mz_Cx X cc own Ts F) (O : mz_OX X) (hd : decode cc pc = .ok (.ldc idx, 2)) (hj : mz_strs[j]? = some (own, idx, tx, bs)) (k : mz_G X (pc + 2) L (mz_ow (1 + 2 * j) :: st) M K n top nc ns) : mz_G X pc L st M K n top nc ns := by
  obtain ⟨p, l, e, R, s, m, args, below, meth, c, nL, D, cA, ao, ρ, A, n0, ad0, Q⟩ := X
  obtain ⟨hex, hb, hml, hown, hts, hK, hA, hF, hV⟩ := C
  intro ad ls H locs hn had hZ hls hst
  obtain ⟨z1, z2⟩ := mz_ow_ok (n := n) (ad := ad) (ao := ao) (ρ := ρ) (1 + 2 * j)
  have q := k ad ls H locs hn had hZ hls (mz_hd z2 hst)
  rw [List.map_cons, z1] at q
  exact va_ldcS hex hb hown (O.2.2.2.2.1 j _ hj).1 hd q
theorem mz_strV {idx j : Nat} {q : String × Nat × String × List Int32} (C : mz_Cx X cc own Ts F) (O : mz_OX X) (hd : decode cc pc = .ok (.getfield idx, 3)) (hj : mz_strs[j]? = some q) (hlink : mz_bf X (Jvm.Cond.fieldLink own idx "java/lang/String" "value" "[B")) (k : mz_G X (pc + 3) L (mz_ow (2 + 2 * j) :: st) M K n top nc ns) : mz_G X pc L (mz_ow (1 + 2 * j) :: st) M K n top nc ns := by
  obtain ⟨p, l, e, R, s, m, args, below, meth, c, nL, D, cA, ao, ρ, A, n0, ad0, Q⟩ := X
  obtain ⟨hex, hb, hml, hown, hts, hK, hA, hF, hV⟩ := C
  intro ad ls H locs hn had hZ hls hst
  obtain ⟨z1, z2⟩ := mz_ow_ok (n := n) (ad := ad) (ao := ao) (ρ := ρ) (2 + 2 * j)
  have y := k ad ls H locs hn had hZ hls (mz_hd z2 (List.forall_mem_cons.mp hst).2)
  rw [List.map_cons, z1] at y
  rw [List.map_cons, (mz_ow_ok (n := n) (ad := ad) (ao := ao) (ρ := ρ) (1 + 2 * j)).1]
  exact vk_getf hex hb (O.2.2.2.2.1 j _ hj).2.2.2.1 hZ.2.2.1 hown hlink (fun _ h => h) hd y
theorem mz_strC {idx j : Nat} {q : String × Nat × String × List Int32} (C : mz_Cx X cc own Ts F) (O : mz_OX X) (hd : decode cc pc = .ok (.getfield idx, 3)) (hj : mz_strs[j]? = some q) (hlink : mz_bf X (Jvm.Cond.fieldLink own idx "java/lang/String" "coder" "B")) (k : mz_G X (pc + 3) L (mz_n 0 :: st) M K n top nc ns) : mz_G X pc L (mz_ow (1 + 2 * j) :: st) M K n top nc ns := by
  obtain ⟨p, l, e, R, s, m, args, below, meth, c, nL, D, cA, ao, ρ, A, n0, ad0, Q⟩ := X
  obtain ⟨hex, hb, hml, hown, hts, hK, hA, hF, hV⟩ := C
  intro ad ls H locs hn had hZ hls hst
  have y := k ad ls H locs hn had hZ hls (mz_hd (mz_cl_I (mz_nw (ρ := ρ) 0).1) (List.forall_mem_cons.mp hst).2)
  rw [List.map_cons, mz_cI (mz_nw (ρ := ρ) 0).1, (mz_nw (ρ := ρ) 0).2] at y
  rw [List.map_cons, (mz_ow_ok (n := n) (ad := ad) (ao := ao) (ρ := ρ) (1 + 2 * j)).1]
  exact vk_getf hex hb (O.2.2.2.2.1 j _ hj).2.2.1 hZ.2.2.1 hown hlink (fun _ h => h) hd y
theorem mz_strL {j : Nat} {q : String × Nat × String × List Int32} (C : mz_Cx X cc own Ts F) (O : mz_OX X) (hd : decode cc pc = .ok (.arraylength, 1)) (hj : mz_strs[j]? = some q) (k : mz_G X (pc + 1) L (mz_n q.2.2.2.length :: st) M K n top nc ns) : mz_G X pc L (mz_ow (2 + 2 * j) :: st) M K n top nc ns := by
  obtain ⟨p, l, e, R, s, m, args, below, meth, c, nL, D, cA, ao, ρ, A, n0, ad0, Q⟩ := X
  obtain ⟨hex, hb, hml, hown, hts, hK, hA, hF, hV⟩ := C
  intro ad ls H locs hn had hZ hls hst
  have y := k ad ls H locs hn had hZ hls (mz_hd (mz_cl_I (mz_nw (ρ := ρ) _).1) (List.forall_mem_cons.mp hst).2)
  rw [List.map_cons, mz_cI (mz_nw (ρ := ρ) _).1, (mz_nw (ρ := ρ) _).2] at y
  rw [List.map_cons, (mz_ow_ok (n := n) (ad := ad) (ao := ao) (ρ := ρ) (2 + 2 * j)).1]
  exact va_tlen hex hb (O.2.2.2.2.1 j _ hj).2.2.2.2 hZ.2.2.1 rfl hd y
theorem mz_emptyL (C : mz_Cx X cc own Ts F) (O : mz_OX X) (hd : decode cc pc = .ok (.arraylength, 1)) (k : mz_G X (pc + 1) L (mz_n 0 :: st) M K n top nc ns) : mz_G X pc L (mz_ow 0 :: st) M K n top nc ns := by
  obtain ⟨p, l, e, R, s, m, args, below, meth, c, nL, D, cA, ao, ρ, A, n0, ad0, Q⟩ := X
  obtain ⟨hex, hb, hml, hown, hts, hK, hA, hF, hV⟩ := C
  intro ad ls H locs hn had hZ hls hst
  have y := k ad ls H locs hn had hZ hls (mz_hd (mz_cl_I (mz_nw (ρ := ρ) _).1) (List.forall_mem_cons.mp hst).2)
  rw [List.map_cons, mz_cI (mz_nw (ρ := ρ) _).1, (mz_nw (ρ := ρ) _).2] at y
  rw [List.map_cons, (mz_ow_ok (n := n) (ad := ad) (ao := ao) (ρ := ρ) 0).1]
  exact va_tlen hex hb O.2.1.2 hZ.2.2.1 rfl hd y
theorem mz_strB {j i b : Nat} {q : String × Nat × String × List Int32} (C : mz_Cx X cc own Ts F) (O : mz_OX X) (hd : decode cc pc = .ok (.baload, 1)) (hj : mz_strs[j]? = some q) (hi : mz_sm i = true) (hl : mz_q i < q.2.2.2.length) (hb2 : q.2.2.2.getD (mz_q i) 0 = nI b) (k : mz_G X (pc + 1) L (mz_n b :: st) M K n top nc ns) : mz_G X pc L (i :: mz_ow (2 + 2 * j) :: st) M K n top nc ns := by
  obtain ⟨p, l, e, R, s, m, args, below, meth, c, nL, D, cA, ao, ρ, A, n0, ad0, Q⟩ := X
  obtain ⟨hex, hb, hml, hown, hts, hK, hA, hF, hV⟩ := C
  intro ad ls H locs hn had hZ hls hst
  obtain ⟨i1, i2, i3⟩ := mz_ix (ρ := ρ) hi hl
  have y := k ad ls H locs hn had hZ hls (mz_hd (mz_cl_I (mz_nw (ρ := ρ) _).1) (List.forall_mem_cons.mp (List.forall_mem_cons.mp hst).2).2)
  rw [List.map_cons, mz_cI (mz_nw (ρ := ρ) _).1, (mz_nw (ρ := ρ) _).2] at y
  rw [List.map_cons, List.map_cons, (mz_ow_ok (n := n) (ad := ad) (ao := ao) (ρ := ρ) (2 + 2 * j)).1, mz_cI i1]
  refine va_tb (v := .int (nI b)) hex hb (O.2.2.2.2.1 j _ hj).2.2.2.2 hZ.2.2.1 i2 ?_ hd y
  show Value.int (q.2.2.2.getD (mz_i ρ i).toNatClampNeg 0) = _
  rw [i3, hb2]
end MZB
end
section
/-! CONTRACTS. What a method does from a small start: the small end -/
/-- a run's end: how (0: it returns; k + 1: it throws the k-th), the answer's word, the memory, the cells' table, how many cells, where free memory begins, cells and slots made -/
abbrev mz_Rt : Type := Nat × Option Nat × Nat × Nat × Nat × Nat × Nat × Nat
/-- a body: name, bytes, locals, what it returns, whether it has a table, the table -/
abbrev mz_Mt : Type := MethodName × ByteArray × Nat × Option FieldType × Bool × List (Nat × Nat × Nat × Nat)
def mz_cw (t : mz_Mt) : Jvm.Cond := bif t.2.2.2.2.1 then .codeWith t.1 t.2.1 t.2.2.1 t.2.2.2.1 t.2.2.2.2.2 else .code t.1 t.2.1 t.2.2.1 t.2.2.2.1
def mz_gG : List Jvm.Cond := lw_tbl.filter goodWord
def mz_ws (t : mz_Mt) : List Jvm.Cond := mz_cw t :: mz_gG
def mz_rr (d nc ns : Nat) : Room := { frames := d + 8, locals := 60 * d + 200, cells := nc, slots := ns }
/-- a start: classes, arrays' classes, addresses, variables, memory, cells, their number, free memory, the heap's size -/
abbrev mz_St : Type := va_G × (Nat → ClassId) × (Nat → Nat) × (Nat → Nat) × (Nat → Int32) × Nat × Nat × Nat × Nat × Nat
def mz_Av : mz_St → Nat → Prop
  | (D, cA, ad, ao, ρ, M, K, n, top, sz) => va_A (mz_w cA ad ao ρ M K n) sz
def mz_B0 : mz_St → State → Prop
  | (D, cA, ad, ao, ρ, M, K, n, top, sz) => fun U => U.heap.size = sz ∧ va_P D vwCl (mz_w cA ad ao ρ M K n) U.heap ∧ va_D (va_A (mz_w cA ad ao ρ M K n) sz) (mz_w cA ad ao ρ M K n) ∧ va_K D vwCl (mz_tys cA) U ∧
    mz_O ao (va_A (mz_w cA ad ao ρ M K n) sz) U U.heap ∧ mz_K n K top ∧ ∀ i, mz_cl n (mz_g M i) = true
def mz_Wd : mz_St → mz_Rt → Heap → (Nat → Nat) → Prop
  | (D, cA, ad, ao, ρ, M, K, n, top, sz), (_, _, M', K', n', top', _, _) => fun H ad' => (∀ k, k < n → ad' k = ad k) ∧ n ≤ n' ∧ va_P D vwCl (mz_w cA ad' ao ρ M' K' n') H ∧ va_D (va_A (mz_w cA ad ao ρ M K n) sz) (mz_w cA ad' ao ρ M' K' n') ∧ mz_K n' K' top' ∧ ∀ i, mz_cl n' (mz_g M' i) = true
def mz_rc : mz_St → (Nat → Nat) → Nat → Value
  | (_, _, _, ao, ρ, _, _, _, _, _), ad' => mz_c ad' ao ρ
def mz_Qc (S : mz_St) (r : mz_Rt) : Array Value → State → Outcome → State → Prop := fun _ st o t =>
  (r.1 = 0 ∧ ∃ ad' : Nat → Nat, mz_Wd S r t.heap ad' ∧ o = .returned (r.2.1.map (mz_rc S ad')) ∧ ∀ w, r.2.1 = some w → mz_cl r.2.2.2.2.1 w = true) ∧ va_F (mz_Av S) st t
def mz_XC (S : mz_St) (r : mz_Rt) : String → State → State → Prop := fun E st t => (∃ k, r.1 = k + 1 ∧ mz_xs[k]? = some E ∧ ∃ ad' : Nat → Nat, mz_Wd S r t.heap ad') ∧ va_F (mz_Av S) st t
def mz_Sp (l : Launch) (ρ : Nat → Int32) (t : mz_Mt) (d : Nat) (ws : List Nat) (M K n top : Nat) (r : mz_Rt) : Prop :=
  ∀ (D : va_G) (cA : Nat → ClassId) (ad ao : Nat → Nat) (sz : Nat), vx_Met l t.1 (mz_ws t) (mz_rr d r.2.2.2.2.2.2.1 r.2.2.2.2.2.2.2) (va_Pc (ws.map (mz_c ad ao ρ)) (mz_B0 (D, cA, ad, ao, ρ, M, K, n, top, sz)))
    (mz_Qc (D, cA, ad, ao, ρ, M, K, n, top, sz) r) (mz_XC (D, cA, ad, ao, ρ, M, K, n, top, sz) r) r.2.2.2.2.2.2.1 r.2.2.2.2.2.2.2 (mz_Av (D, cA, ad, ao, ρ, M, K, n, top, sz))
theorem mz_blind (S : mz_St) (vs : List Value) : FrameBlind (va_Pc vs (mz_B0 S)) := by
  obtain ⟨D, cA, ad, ao, ρ, M, K, n, top, sz⟩ := S
  intro a U g mk ⟨h1, h2, h3, h4, h5, h6, h7⟩
  have hW : U.WarmedH (U.calling g mk a).vm := State.WarmedH.refl U
  exact ⟨h1, h2, h3, h4, va_K.moved hW.alike h5, mz_O_call (locs := []) h6 ⟨Nat.le_refl _, fun _ _ _ => rfl, fun _ h => nomatch h⟩ rfl hW (fun _ h => h), h7⟩
/-- it returns: the plain contract -/
theorem mz_Met {l : Launch} {y : MethodName} {ws : List Jvm.Cond} {rm : Room} {Pc : Array Value → State → Prop} {S : mz_St} {r : mz_Rt} {mc ms : Nat} {free : Addr → Prop} (h : vx_Met l y ws rm Pc (mz_Qc S r) (mz_XC S r) mc ms free) (h0 : r.1 = 0) : Met l y ws rm Pc (mz_Qc S r) mc ms free := by
  refine MetFree.mono h (fun _ _ h => h) (fun _ _ _ _ _ h => h) fun a s o t _ hq => ?_
  rcases hq with hq | ⟨q, -, E, ce, L, ⟨⟨k, hk, -⟩, -⟩, -⟩
  · exact hq
  · rw [h0] at hk; cases hk
end
section
/-! CALLS: what a call gives, whoever makes it -/
section MZC
variable {p : Program} {l : Launch} {e : Env} {R : Room} {s : State} {m : MethodId} {args : Array Value} {below : List Frame} {meth : Method} {c : Code}
/-- a call of an instruction of ln bytes has returned or thrown -/
def mz_Run (p : Program) (l : Launch) (e : Env) (R : Room) (s : State) (m : MethodId) (args : Array Value) (below : List Frame) (meth : Method) (c : Code) (H : Heap) (locs : List Loc) (cells slots mc ms ln : Nat) (g : JFrame) (rest : List Value) (Qa : State → Outcome → State → Prop) (XC : String → State → State → Prop) (free : Addr → Prop) : Prop :=
  ∀ T : State, T.heap = H → Stand p l e R s m args below meth c T locs cells slots →
    (∃ (v : Option Value) (st₀ t T' : State) (L : List Loc), st₀.heap = H ∧ Stand p l e R s m args below meth c T' (locs ++ L) (cells + mc) (slots + ms) ∧ (∀ q ∈ L, free q.base) ∧ T'.heap = t.heap ∧ Qa st₀ (.returned v) t ∧
      Goes p e below T g T' { g with pc := g.pc + ln, stack := v.toList ++ rest }) ∨
    (∃ (q : Addr) (st₀ t T' : State) (L : List Loc) (E : String) (ce : Cell), st₀.heap = H ∧ Stand p l e R s m args below meth c T' (locs ++ L) (cells + mc) (slots + ms) ∧ (∀ z ∈ L, free z.base) ∧ T'.heap = t.heap ∧ XC E st₀ t ∧ t.heap[q]? = some ce ∧ ce.vm = .none ∧ s.vm.findClass E = some ce.cls ∧
      Steps p.tables e below (T.setTop g) ((T'.setTop { g with stack := rest }).pushFrame (.throwing q)))
variable {H : Heap} {locs : List Loc} {cells slots mc ms ln : Nat} {g : JFrame} {rest : List Value} {Qa : State → Outcome → State → Prop} {XC : String → State → State → Prop} {free : Addr → Prop}
theorem mz_Run.x (h : vx_Run p l e R s m args below meth c H locs cells slots mc ms g rest Qa XC free) : mz_Run p l e R s m args below meth c H locs cells slots mc ms 3 g rest Qa XC free := by
  intro T hT X
  rcases h T hT X with ⟨v, st₀, t, T', L, a1, a2, a3, a4, -, a6, a7⟩ | ⟨q, st₀, t, T', L, E, ce, a1, a2, a3, a4, -, a6, a7, a8, a9, a10⟩
  · exact Or.inl ⟨v, st₀, t, T', L, a1, a2, a3, a4, a6, a7⟩
  · exact Or.inr ⟨q, st₀, t, T', L, E, ce, a1, a2, a3, a4, a6, a7, a8, a9, a10⟩
theorem mz_Run.a (h : va_Run p l e R s m args below meth c H locs cells slots mc ms g rest Qa free) : mz_Run p l e R s m args below meth c H locs cells slots mc ms 3 g rest Qa XC free := by
  intro T hT X
  obtain ⟨v, st₀, t, T', L, a1, a2, a3, a4, -, a6, a7⟩ := h T hT X
  exact Or.inl ⟨v, st₀, t, T', L, a1, a2, a3, a4, a6, a7⟩
theorem mz_Run.f (h : va_Run5 p l e R s m args below meth c H locs cells slots mc ms g rest Qa free) : mz_Run p l e R s m args below meth c H locs cells slots mc ms 5 g rest Qa XC free := by
  intro T hT X
  obtain ⟨v, st₀, t, T', L, a1, a2, a3, a4, -, a6, a7⟩ := h T hT X
  exact Or.inl ⟨v, st₀, t, T', L, a1, a2, a3, a4, a6, a7⟩
end MZC
/-- the k-th exception is thrown over this small state -/
def mz_GX : mz_Xt → Nat → Nat → List Nat → Nat → Nat → Nat → Nat → Nat → Nat → Nat → Prop
  | (p, l, e, R, s, m, args, below, meth, c, nL, D, cA, ao, ρ, A, n0, ad0, Q), pc, L, st, M, K, n, top, nc, ns, k =>
    ∀ (ad : Nat → Nat) (ls : Array Slot) (H : Heap) (locs : List Loc), n0 ≤ n → (∀ k, k < n0 → ad k = ad0 k) → mz_Z D cA ad ao ρ A s.heap H locs M K n top → mz_ls ad ao ρ n nL ls L → (∀ w ∈ st, mz_cl n w = true) →
      ∀ (q : Addr) (ce : Cell) (E : String), mz_xs[k]? = some E → H[q]? = some ce → ce.vm = .none → s.vm.findClass E = some ce.cls → vx_W p l e R s m args below meth c H locs nc ns Q (F0 m pc ls (st.map (mz_c ad ao ρ))) q
theorem mz_ls_ext {ad ad' ao : Nat → Nat} {ρ : Nat → Int32} {n n' nL L : Nat} {ls : Array Slot} (h : mz_ls ad ao ρ n nL ls L) (hn : n ≤ n') (ha : ∀ k, k < n → ad' k = ad k) : mz_ls ad' ao ρ n' nL ls L :=
  ⟨h.1, h.2.1, fun i hi => by rw [mz_c_ad (h.2.2.2 i) ha]; exact h.2.2.1 i hi, fun i => mz_cl_mono hn (h.2.2.2 i)⟩
section MZD
variable {X : mz_Xt} {cc : ByteArray} {own : String} {Ts : List Jvm.Cond} {F : Nat → Nat × Nat} {pc L M K n top nc ns : Nat} {st : List Nat}
/-- a call is owed its run -/
def mz_CR : mz_Xt → Nat → Nat → List Nat → List Nat → Nat → Nat → Nat → Nat → Nat → Nat → Nat → mz_Rt → Prop
  | (p, l, e, R, s, m, args, below, meth, c, nL, D, cA, ao, ρ, A, n0, ad0, Q), pc, L, st, rest, M, K, n, top, nc, ns, ln, r =>
    ∀ (ad : Nat → Nat) (ls : Array Slot) (H : Heap) (locs : List Loc), n0 ≤ n → (∀ k, k < n0 → ad k = ad0 k) → mz_Z D cA ad ao ρ A s.heap H locs M K n top → mz_ls ad ao ρ n nL ls L → (∀ w ∈ st, mz_cl n w = true) →
      ∃ va : Array Value, mz_Run p l e R s m args below meth c H locs nc ns r.2.2.2.2.2.2.1 r.2.2.2.2.2.2.2 ln (F0 m pc ls (st.map (mz_c ad ao ρ))) (rest.map (mz_c ad ao ρ)) (mz_Qc (D, cA, ad, ao, ρ, M, K, n, top, H.size) r va) (mz_XC (D, cA, ad, ao, ρ, M, K, n, top, H.size) r) (mz_Av (D, cA, ad, ao, ρ, M, K, n, top, H.size))
theorem mz_called {ln : Nat} {rest : List Nat} {rx : Nat} {rv : Option Nat} {M' K' n' top' c' s' : Nat} (C : mz_Cx X cc own Ts F) (hsub : ∀ w ∈ rest, w ∈ st) (hr : mz_CR X pc L st rest M K n top nc ns ln (rx, rv, M', K', n', top', c', s'))
    (kR : rx = 0 → mz_G X (pc + ln) L (rv.toList ++ rest) M' K' n' top' (nc + c') (ns + s')) (kX : ∀ k, rx = k + 1 → mz_GX X pc L rest M' K' n' top' (nc + c') (ns + s') k) : mz_G X pc L st M K n top nc ns := by
  obtain ⟨p, l, e, R, s, m, args, below, meth, c, nL, D, cA, ao, ρ, A, n0, ad0, Q⟩ := X
  obtain ⟨hex, hb, hml, hown, hts, hK, hA, hF, hV⟩ := C
  intro ad ls H locs hn had hZ hls hst
  obtain ⟨hP, hD, hS, hKK, hC⟩ := hZ
  have hAA : ∀ q, va_A (mz_w cA ad ao ρ M K n) H.size q → A q := fun q hq => by
    rcases hq with ⟨k, e, hk⟩ | hq
    · exact hD.2 k _ hk
    · exact hA q (Nat.le_trans hS.1 hq)
  have hrest : ∀ w ∈ rest, mz_cl n w = true := fun w hw => hst w (hsub w hw)
  obtain ⟨va, hrun⟩ := hr ad ls H locs hn had ⟨hP, hD, hS, hKK, hC⟩ hls hst
  intro T hT X
  rcases hrun T hT X with ⟨v, st₀, t, T', L', h0, X', hL, e1, ⟨⟨hx, ad', ⟨w1, w2, w3, w4, w5, w6⟩, hv, hcv⟩, hFF⟩, st'⟩ | ⟨q, st₀, t, T', L', E, ce, h0, X', hL, e1, ⟨⟨k, hk, hE, ad', w1, w2, w3, w4, w5, w6⟩, hFF⟩, hce, hcv, hcl, st'⟩
  · obtain ⟨-, -, k3⟩ := vx_keep h0 e1 hS (fun q _ h => hAA q h) (fun q h => hAA q h) hL hFF
    have hv2 : v = rv.map (mz_c ad' ao ρ) := by injection hv
    subst hv2
    have q := kR hx ad' ls T'.heap (locs ++ L') (Nat.le_trans hn w2) (fun k hk => (w1 k (by omega)).trans (had k hk)) ⟨by rw [e1]; exact w3, ⟨w4.1, fun k q hq => hAA _ (w4.2 k q hq)⟩, k3, w5, w6⟩ (mz_ls_ext hls w2 w1)
      (fun w hw => by
        rcases List.mem_append.mp hw with z | z
        · exact hcv w (Option.mem_toList.mp z)
        · exact mz_cl_mono w2 (hrest w z))
    have e2 : (rv.toList ++ rest).map (mz_c ad' ao ρ) = (rv.map (mz_c ad' ao ρ)).toList ++ rest.map (mz_c ad ao ρ) := by
      rw [List.map_append, mz_st_ad hrest w1]
      cases rv <;> rfl
    rw [e2] at q
    obtain ⟨t2, a1, b1⟩ := q T' rfl X'
    exact ⟨t2, st' t2 a1, b1⟩
  · obtain ⟨-, -, k3⟩ := vx_keep h0 e1 hS (fun q _ h => hAA q h) (fun q h => hAA q h) hL hFF
    have y := kX k hk ad' ls T'.heap (locs ++ L') (Nat.le_trans hn w2) (fun k hk => (w1 k (by omega)).trans (had k hk)) ⟨by rw [e1]; exact w3, ⟨w4.1, fun k q hq => hAA _ (w4.2 k q hq)⟩, k3, w5, w6⟩ (mz_ls_ext hls w2 w1)
      (fun w hw => mz_cl_mono w2 (hrest w hw)) q ce E hE (by rw [e1]; exact hce) hcv hcl
    rw [mz_st_ad hrest w1] at y
    obtain ⟨t2, a1, b1⟩ := y T' rfl X'
    exact ⟨t2, st'.trans a1, b1⟩
/-- what the callee's start wants, of the caller's heap -/
theorem mz_start {p : Program} {l : Launch} {e : Env} {R : Room} {s : State} {m : MethodId} {args : Array Value} {below : List Frame} {meth : Method} {c : Code} {nL : Nat} {D : va_G} {cA : Nat → ClassId} {ao : Nat → Nat} {ρ : Nat → Int32} {A : Nat → Prop} {n0 : Nat} {ad0 : Nat → Nat} {Q : State → Prop}
    (C : mz_Cx (p, l, e, R, s, m, args, below, meth, c, nL, D, cA, ao, ρ, A, n0, ad0, Q) cc own Ts F) (O : mz_OX (p, l, e, R, s, m, args, below, meth, c, nL, D, cA, ao, ρ, A, n0, ad0, Q)) {ad : Nat → Nat} {H : Heap} {locs : List Loc} (hZ : mz_Z D cA ad ao ρ A s.heap H locs M K n top) (as : List Nat) :
    PreS s H (va_Pc (as.map (mz_c ad ao ρ)) (mz_B0 (D, cA, ad, ao, ρ, M, K, n, top, H.size))) (as.map (mz_c ad ao ρ)) := by
  obtain ⟨hex, hb, hml, hown, hts, hK, hA, hF, hV⟩ := C
  obtain ⟨hP, hD, hS, hKK, hC⟩ := hZ
  refine ⟨mz_blind _ _, fun U hU hW => ⟨rfl, by rw [hU], by rw [hU]; exact hP, ⟨hD.1, fun k q hq => Or.inl ⟨k, q.2, hq⟩⟩, va_K.moved hW.alike hK, mz_O_call O hS hU hW (fun q hq => ?_), hKK, hC⟩⟩
  rcases hq with ⟨k, e, hk⟩ | hq
  · exact hD.2 k _ hk
  · exact hA q (Nat.le_trans hS.1 hq)
end MZD
end
section
/-! THE KINDS OF CALLS -/
def mz_lz : mz_Xt → Launch
  | (p, l, e, R, s, m, args, below, meth, c, nL, D, cA, ao, ρ, A, n0, ad0, Q) => l
section MZK
variable {X : mz_Xt} {cc : ByteArray} {own : String} {F : Nat → Nat × Nat} {pc L M K n top nc ns : Nat} {st : List Nat}
/-- what is called: an object of the class C0 -/
def mz_Rc : mz_Xt → Nat → Nat → Nat → Nat → Nat → String → Prop
  | (p, l, e, R, s, m, args, below, meth, c, nL, D, cA, ao, ρ, A, n0, ad0, Q), M, K, n, top, x, C0 =>
    ∀ (ad : Nat → Nat) (H : Heap) (locs : List Loc), mz_Z D cA ad ao ρ A s.heap H locs M K n top → ∃ b : Nat, mz_c ad ao ρ x = .ref b ∧ ∃ cell : Cell, H[b]? = some cell ∧ cell.vm.isStatics = false ∧ s.vm.findClass C0 = some cell.cls
theorem mz_Rc_new {x ci N : Nat} {C0 : String} {T : u_T} {Ts : List Jvm.Cond} (C : mz_Cx X cc own Ts F) (hx : mz_ref n x = true) (ht : mz_ct K (mz_k x) = ci) (hci : ci < 64) (hc : vwCl[ci]? = some (C0, T, N)) : mz_Rc X M K n top x C0 := by
  obtain ⟨p, l, e, R, s, m, args, below, meth, c, nL, D, cA, ao, ρ, A, n0, ad0, Q⟩ := X
  obtain ⟨hex, hb, hml, hown, hts, hK, hA, hF, hV⟩ := C
  intro ad H locs hZ
  obtain ⟨h1, h2⟩ := mz_ref_c (ad := ad) (ao := ao) (ρ := ρ) hx
  refine ⟨_, h1, ?_⟩
  exact va_recv hK hZ.1 hc (by rw [mz_w_at h2, mz_E_obj ht hci])
theorem mz_Rc_str {j : Nat} {q : String × Nat × String × List Int32} (O : mz_OX X) (hj : mz_strs[j]? = some q) : mz_Rc X M K n top (mz_ow (1 + 2 * j)) "java/lang/String" := by
  obtain ⟨p, l, e, R, s, m, args, below, meth, c, nL, D, cA, ao, ρ, A, n0, ad0, Q⟩ := X
  intro ad H locs hZ
  refine ⟨_, (mz_ow_ok (n := n) (ad := ad) (ao := ao) (ρ := ρ) (1 + 2 * j)).1, ?_⟩
  obtain ⟨cell, h1, h2, h3, -⟩ := va_O.kept (O.2.2.2.2.1 j _ hj).2.1 hZ.2.2.1.2.1
  exact ⟨cell, h1, h2, h3⟩
/-- room for a call of a body with maxL locals, d below -/
def mz_Rf (X : mz_Xt) (d maxL nc ns : Nat) (r : mz_Rt) : Prop := (d + 8) + 1 ≤ (mz_rm X).frames ∧ 8 + (maxL + 11) + (60 * d + 200) ≤ (mz_rm X).locals ∧ nc + r.2.2.2.2.2.2.1 ≤ (mz_rm X).cells ∧ ns + r.2.2.2.2.2.2.2 ≤ (mz_rm X).slots
theorem mz_goods {t : mz_Mt} (h : mz_cw t ∈ mz_gG) : GoodIn mz_gG (mz_ws t) := by
  intro w hw
  have h1 : w ∈ mz_gG := by
    rcases List.mem_cons.mp hw with rfl | z
    · exact h
    · exact z
  exact ⟨h1, good_of_word (List.mem_filter.mp h1).2⟩
theorem mz_cats {vs : List Value} (h : vs.length ≤ 4) : (vs.map fun v => v.category).sum ≤ 8 := by
  have h1 : ∀ vs : List Value, (vs.map fun v => v.category).sum ≤ 2 * vs.length := by
    intro vs
    induction vs with
    | nil => simp
    | cons v t ih =>
      have : v.category ≤ 2 := by cases v <;> simp [Value.category]
      simp only [List.map_cons, List.sum_cons, List.length_cons]
      omega
  have := h1 vs
  omega
def mz_na (y : MethodName) (k : Nat) : Prop := (parseMethodDescriptor y.desc).map (fun d => d.parameters.length) = some k
theorem mz_na_of {y : MethodName} {k : Nat} (h : mz_na y k) : ∀ sig, parseMethodDescriptor y.desc = some sig → k = sig.parameters.length := fun sig h2 => by
  unfold mz_na at h
  rw [h2] at h
  exact (Option.some.inj h).symm
abbrev mz_nh (y : MethodName) : Prop := y.cls ≠ "java/lang/invoke/MethodHandle" ∧ y.cls ≠ "java/lang/invoke/VarHandle"
theorem mz_crS {y : MethodName} {by_ : ByteArray} {maxL : Nat} {ret : Option FieldType} {hh : List (Nat × Nat × Nat × Nat)} {d idx : Nat} {as rest : List Nat} {r : mz_Rt} (C : mz_Cx X cc own mz_gG F) (O : mz_OX X) (hd : decode cc pc = .ok (.invokestatic idx, 3))
    (hSp : mz_Sp (mz_lz X) (mz_rho X) (y, by_, maxL, ret, false, hh) d as M K n top r) (hst : st = as.reverse ++ rest) (h4 : rest.length ≤ 4) (hn : mz_na y as.length) (hh2 : mz_nh y)
    (hin : mz_cw (y, by_, maxL, ret, false, hh) ∈ mz_gG) (hl : Jvm.Cond.methodLink own idx y ∈ mz_gG) (hs : Jvm.Cond.static y ∈ mz_gG) (hi : Jvm.Cond.initialized y.cls ∈ mz_gG) (hF : mz_Rf X d maxL nc ns r) : mz_CR X pc L st rest M K n top nc ns 3 r := by
  obtain ⟨p, l, e, R, s, m, args, below, meth, c, nL, D, cA, ao, ρ, A, n0, ad0, Q⟩ := X
  intro ad ls H locs hn0 had hZ hls hst2
  have hp := mz_start C O hZ as
  obtain ⟨hex, hb, hml, hown, hts, hK, hA, hFF, hV⟩ := C
  have hG := mz_goods hin
  refine ⟨_, mz_Run.x (vx_runS (Ts := mz_gG) (bytes := by_) (maxL := maxL) (ret := ret) (n := as.length) ⟨hex, hb, hml, hown, hts⟩ (hSp D cA ad ao H.size)
    ⟨⟨rfl, rfl, hF.1, hF.2.1, pay_in hts hG, List.mem_cons_self, hts _ hin, hts _ hi, hh2, mz_na_of hn, hts _ hl⟩, hts _ hs⟩ hp rfl (by simp) hls.1 ?_ ?_ hd ⟨hF.2.2.1, hF.2.2.2⟩)⟩
  · show st.map _ = _
    rw [hst, List.map_append, List.map_reverse]
  · show 2 * 0 + _ ≤ 8
    have := mz_cats (vs := rest.map (mz_c ad ao ρ)) (by simpa using h4)
    omega
theorem mz_crSW {y : MethodName} {by_ : ByteArray} {maxL : Nat} {ret : Option FieldType} {hh : List (Nat × Nat × Nat × Nat)} {d idx : Nat} {as rest : List Nat} {r : mz_Rt} (C : mz_Cx X cc own mz_gG F) (O : mz_OX X) (hd : decode cc pc = .ok (.invokestatic idx, 3))
    (hSp : mz_Sp (mz_lz X) (mz_rho X) (y, by_, maxL, ret, true, hh) d as M K n top r) (hst : st = as.reverse ++ rest) (h4 : rest.length ≤ 4) (hn : mz_na y as.length) (hh2 : mz_nh y)
    (hin : mz_cw (y, by_, maxL, ret, true, hh) ∈ mz_gG) (hl : Jvm.Cond.methodLink own idx y ∈ mz_gG) (hs : Jvm.Cond.static y ∈ mz_gG) (hi : Jvm.Cond.initialized y.cls ∈ mz_gG) (hF : mz_Rf X d maxL nc ns r) : mz_CR X pc L st rest M K n top nc ns 3 r := by
  obtain ⟨p, l, e, R, s, m, args, below, meth, c, nL, D, cA, ao, ρ, A, n0, ad0, Q⟩ := X
  intro ad ls H locs hn0 had hZ hls hst2
  have hp := mz_start C O hZ as
  obtain ⟨hex, hb, hml, hown, hts, hK, hA, hFF, hV⟩ := C
  have hG := mz_goods hin
  refine ⟨_, mz_Run.x (vx_runSX (Ts := mz_gG) (hh := hh) (bytes := by_) (maxL := maxL) (ret := ret) (n := as.length) ⟨hex, hb, hml, hown, hts⟩ (hSp D cA ad ao H.size)
    ⟨⟨rfl, rfl, hF.1, hF.2.1, pay_in hts hG, List.mem_cons_self⟩, hts _ hin, hts _ hi, hh2, mz_na_of hn, hts _ hl, hts _ hs⟩ hp rfl (by simp) hls.1 ?_ ?_ hd ⟨hF.2.2.1, hF.2.2.2⟩)⟩
  · show st.map _ = _
    rw [hst, List.map_append, List.map_reverse]
  · show 2 * 0 + _ ≤ 8
    have := mz_cats (vs := rest.map (mz_c ad ao ρ)) (by simpa using h4)
    omega
/-- the start of a call upon an object -/
theorem mz_crO {x : Nat} {as rest : List Nat} {ad ao : Nat → Nat} {ρ : Nat → Int32} {b : Nat} (hst : st = as.reverse ++ x :: rest) (hb : mz_c ad ao ρ x = .ref b) : st.map (mz_c ad ao ρ) = (as.map (mz_c ad ao ρ)).reverse ++ .ref b :: rest.map (mz_c ad ao ρ) := by
  rw [hst, List.map_append, List.map_reverse, List.map_cons, hb]
theorem mz_crV {y : MethodName} {by_ : ByteArray} {maxL : Nat} {ret : Option FieldType} {hh : List (Nat × Nat × Nat × Nat)} {d idx x : Nat} {as rest : List Nat} {r : mz_Rt} (C : mz_Cx X cc own mz_gG F) (O : mz_OX X) (hd : decode cc pc = .ok (.invokevirtual idx, 3))
    (hSp : mz_Sp (mz_lz X) (mz_rho X) (y, by_, maxL, ret, false, hh) d (x :: as) M K n top r) (hst : st = as.reverse ++ x :: rest) (h4 : rest.length ≤ 4) (hn : mz_na y as.length) (hh2 : mz_nh y) (hrc : mz_Rc X M K n top x y.cls)
    (hin : mz_cw (y, by_, maxL, ret, false, hh) ∈ mz_gG) (hl : Jvm.Cond.methodLink own idx y ∈ mz_gG) (hs : Jvm.Cond.instanceMethod y ∈ mz_gG) (hs2 : Jvm.Cond.selects y.cls y y ∈ mz_gG) (hi : Jvm.Cond.initialized y.cls ∈ mz_gG) (hF : mz_Rf X d maxL nc ns r) : mz_CR X pc L st rest M K n top nc ns 3 r := by
  obtain ⟨p, l, e, R, s, m, args, below, meth, c, nL, D, cA, ao, ρ, A, n0, ad0, Q⟩ := X
  change mz_Sp l ρ _ d _ M K n top r at hSp
  intro ad ls H locs hn0 had hZ hls hst2
  have hp := mz_start C O hZ (x :: as)
  obtain ⟨hex, hb, hml, hown, hts, hK, hA, hFF, hV⟩ := C
  have hG := mz_goods hin
  obtain ⟨b, hxb, cell, hc1, hc2, hc3⟩ := hrc ad H locs hZ
  rw [List.map_cons, hxb] at hp
  have hSp2 := hSp D cA ad ao H.size
  rw [List.map_cons, hxb] at hSp2
  refine ⟨_, mz_Run.x (vx_runV (Ts := mz_gG) (C := y.cls) (b := b) (As := as.map (mz_c ad ao ρ)) (bytes := by_) (maxL := maxL) (ret := ret) (n := as.length) ⟨hex, hb, hml, hown, hts⟩ hSp2
    ⟨⟨rfl, rfl, hF.1, hF.2.1, pay_in hts hG, List.mem_cons_self, hts _ hin, hts _ hi, hh2, mz_na_of hn, hts _ hl⟩, hts _ hs, hts _ hs2⟩ ⟨hp.1, ⟨cell, hc1, hc2, hc3⟩, hp.2⟩ rfl (by simp) hls.1 (mz_crO hst hxb) ?_ hd ⟨hF.2.2.1, hF.2.2.2⟩)⟩
  show 2 * 0 + _ ≤ 8
  have := mz_cats (vs := rest.map (mz_c ad ao ρ)) (by simpa using h4)
  omega
theorem mz_crI {y : MethodName} {by_ : ByteArray} {maxL : Nat} {hh : List (Nat × Nat × Nat × Nat)} {d idx x : Nat} {as rest : List Nat} {r : mz_Rt} (C : mz_Cx X cc own mz_gG F) (O : mz_OX X) (hd : decode cc pc = .ok (.invokespecial idx, 3)) (hr0 : r.1 = 0)
    (hSp : mz_Sp (mz_lz X) (mz_rho X) (y, by_, maxL, none, false, hh) d (x :: as) M K n top r) (hst : st = as.reverse ++ x :: rest) (h4 : rest.length ≤ 4) (hn : mz_na y as.length) (hh2 : mz_nh y) (hx : mz_ref n x = true) (hy : y.name = "<init>")
    (hin : mz_cw (y, by_, maxL, none, false, hh) ∈ mz_gG) (hl : Jvm.Cond.methodLink own idx y ∈ mz_gG) (hs : Jvm.Cond.instanceMethod y ∈ mz_gG) (hi : Jvm.Cond.initialized y.cls ∈ mz_gG) (hF : mz_Rf X d maxL nc ns r) : mz_CR X pc L st rest M K n top nc ns 3 r := by
  obtain ⟨p, l, e, R, s, m, args, below, meth, c, nL, D, cA, ao, ρ, A, n0, ad0, Q⟩ := X
  change mz_Sp l ρ _ d _ M K n top r at hSp
  intro ad ls H locs hn0 had hZ hls hst2
  have hp := mz_start C O hZ (x :: as)
  obtain ⟨hex, hb, hml, hown, hts, hK, hA, hFF, hV⟩ := C
  have hG := mz_goods hin
  obtain ⟨b, hxb⟩ : ∃ b, mz_c ad ao ρ x = .ref b := ⟨_, (mz_ref_c (ad := ad) (ao := ao) (ρ := ρ) hx).1⟩
  rw [List.map_cons, hxb] at hp
  have hSp2 := hSp D cA ad ao H.size
  rw [List.map_cons, hxb] at hSp2
  refine ⟨_, mz_Run.a (va_runI (Ts := mz_gG) (b := b) (As := as.map (mz_c ad ao ρ)) (bytes := by_) (maxL := maxL) (n := as.length) ⟨hex, hb, hml, hown, hts⟩ (mz_Met hSp2 hr0)
    ⟨⟨rfl, rfl, hF.1, hF.2.1, pay_in hts hG, List.mem_cons_self, hts _ hin, hts _ hi, hh2, mz_na_of hn, hts _ hl⟩, hy, hts _ hs⟩ hp rfl (by simp) hls.1 (mz_crO hst hxb) ?_ hd ⟨hF.2.2.1, hF.2.2.2⟩)⟩
  show 2 * 0 + _ ≤ 8
  have := mz_cats (vs := rest.map (mz_c ad ao ρ)) (by simpa using h4)
  omega
theorem mz_crIN {y : MethodName} {host : String} {by_ : ByteArray} {maxL : Nat} {hh : List (Nat × Nat × Nat × Nat)} {d idx x : Nat} {as rest : List Nat} {r : mz_Rt} (C : mz_Cx X cc own mz_gG F) (O : mz_OX X) (hd : decode cc pc = .ok (.invokespecial idx, 3)) (hr0 : r.1 = 0)
    (hSp : mz_Sp (mz_lz X) (mz_rho X) (y, by_, maxL, none, false, hh) d (x :: as) M K n top r) (hst : st = as.reverse ++ x :: rest) (h4 : rest.length ≤ 4) (hn : mz_na y as.length) (hh2 : mz_nh y) (hx : mz_ref n x = true) (hy : y.name = "<init>")
    (hin : mz_cw (y, by_, maxL, none, false, hh) ∈ mz_gG) (hl : Jvm.Cond.methodLinkNest own idx y host ∈ lw_tbl) (hs : Jvm.Cond.instanceMethod y ∈ mz_gG) (hi : Jvm.Cond.initialized y.cls ∈ mz_gG) (hF : mz_Rf X d maxL nc ns r) : mz_CR X pc L st rest M K n top nc ns 3 r := by
  obtain ⟨p, l, e, R, s, m, args, below, meth, c, nL, D, cA, ao, ρ, A, n0, ad0, Q⟩ := X
  change mz_Sp l ρ _ d _ M K n top r at hSp
  intro ad ls H locs hn0 had hZ hls hst2
  have hp := mz_start C O hZ (x :: as)
  obtain ⟨hex, hb, hml, hown, hts, hK, hA, hFF, hV⟩ := C
  have hG := mz_goods hin
  obtain ⟨b, hxb⟩ : ∃ b, mz_c ad ao ρ x = .ref b := ⟨_, (mz_ref_c (ad := ad) (ao := ao) (ρ := ρ) hx).1⟩
  rw [List.map_cons, hxb] at hp
  have hSp2 := hSp D cA ad ao H.size
  rw [List.map_cons, hxb] at hSp2
  refine ⟨_, mz_Run.a (va_runIN (Ts := mz_gG) (host := host) (b := b) (As := as.map (mz_c ad ao ρ)) (bytes := by_) (maxL := maxL) (n := as.length) ⟨hex, hb, hml, hown, hts⟩ (mz_Met hSp2 hr0)
    ⟨⟨⟨rfl, rfl, hF.1, hF.2.1, pay_in hts hG, List.mem_cons_self⟩, hts _ hin, hts _ hi, hh2, mz_na_of hn, va_Nw.use rfl (O.2.2.2.2.2.1 _ hl rfl)⟩, hy, hts _ hs⟩ hp rfl (by simp) hls.1 (mz_crO hst hxb) ?_ hd ⟨hF.2.2.1, hF.2.2.2⟩)⟩
  show 2 * 0 + _ ≤ 8
  have := mz_cats (vs := rest.map (mz_c ad ao ρ)) (by simpa using h4)
  omega
end MZK
end
section
/-! CALLS THROUGH AN INTERFACE, Object's constructor, System.arraycopy -/
section MZI
variable {X : mz_Xt} {cc : ByteArray} {own : String} {F : Nat → Nat × Nat} {pc L M K n top nc ns : Nat} {st : List Nat}
theorem mz_crF {xm y : MethodName} {by_ : ByteArray} {maxL : Nat} {ret : Option FieldType} {hh : List (Nat × Nat × Nat × Nat)} {d idx cnt x ci N : Nat} {T : u_T} {as rest : List Nat} {r : mz_Rt} (C : mz_Cx X cc own mz_gG F) (O : mz_OX X) (hd : decode cc pc = .ok (.invokeinterface idx cnt, 5)) (hr0 : r.1 = 0)
    (hSp : mz_Sp (mz_lz X) (mz_rho X) (y, by_, maxL, ret, false, hh) d (x :: as) M K n top r) (hst : st = as.reverse ++ x :: rest) (h4 : rest.length ≤ 4) (hn : mz_na xm as.length) (hh2 : mz_nh xm) (hxy : (xm = mz_hasN ∧ y = ⟨mz_itr, "hasNext", "()Z"⟩) ∨ (xm = mz_nextN ∧ y = ⟨mz_itr, "next", "()Ljava/lang/Object;"⟩))
    (hx : mz_ref n x = true) (ht : mz_ct K (mz_k x) = ci) (hci : ci < 64) (hc : vwCl[ci]? = some (mz_itr, T, N))
    (hin : mz_cw (y, by_, maxL, ret, false, hh) ∈ mz_gG) (hl : Jvm.Cond.methodLink own idx xm ∈ mz_gG) (hs : Jvm.Cond.instanceMethod y ∈ mz_gG) (hs2 : Jvm.Cond.selects mz_itr xm y ∈ mz_gG) (hi : Jvm.Cond.initialized y.cls ∈ mz_gG) (hF : mz_Rf X d maxL nc ns r) : mz_CR X pc L st rest M K n top nc ns 5 r := by
  have hrc := mz_Rc_new (M := M) (top := top) C hx ht hci hc
  obtain ⟨p, l, e, R, s, m, args, below, meth, c, nL, D, cA, ao, ρ, A, n0, ad0, Q⟩ := X
  change mz_Sp l ρ _ d _ M K n top r at hSp
  intro ad ls H locs hn0 had hZ hls hst2
  have hp := mz_start C O hZ (x :: as)
  obtain ⟨hex, hb, hml, hown, hts, hK, hA, hFF, hV⟩ := C
  have hG := mz_goods hin
  obtain ⟨b, hxb, cell, hc1, hc2, hc3⟩ := hrc ad H locs hZ
  rw [List.map_cons, hxb] at hp
  have hSp2 := hSp D cA ad ao H.size
  rw [List.map_cons, hxb] at hSp2
  have hFw : va_Fw mz_itr xm y s := by
    rcases hxy with ⟨rfl, rfl⟩ | ⟨rfl, rfl⟩
    · exact O.2.2.2.2.2.2.2.1
    · exact O.2.2.2.2.2.2.2.2.1
  refine ⟨_, mz_Run.f (va_runF (Ts := mz_gG) (C := mz_itr) (b := b) (As := as.map (mz_c ad ao ρ)) (bytes := by_) (maxL := maxL) (ret := ret) (n := as.length) (hK.1 ci _ hc).2 ⟨hex, hb, hml, hown, hts⟩ (mz_Met hSp2 hr0)
    (va_cwF as.length hts (fun w hw => ?_) rfl rfl rfl hFw ⟨hh2.1, hh2.2, hn⟩ ⟨hF.1, hF.2.1⟩) ⟨hp.1, ⟨cell, hc1, hc2, hc3⟩, hp.2⟩ rfl (by simp) hls.1 (mz_crO hst hxb) ?_ hd ⟨hF.2.2.1, hF.2.2.2⟩)⟩
  · have g : ∀ w, w ∈ mz_gG → w ∈ mz_gG ∧ ((w.onTables && w.keeps) = true ∨ ∃ ty, w = .arrayClass ty) := fun w h => ⟨h, good_of_word (List.mem_filter.mp h).2⟩
    unfold va_wsF at hw
    rcases List.mem_append.mp hw with z | z
    · simp only [List.mem_cons, List.not_mem_nil, or_false] at z
      rcases z with rfl | rfl | rfl | rfl
      · exact g _ hl
      · exact g _ hs2
      · exact g _ hs
      · exact g _ hi
    · exact hG w z
  · show 2 * 0 + _ ≤ 8
    have := mz_cats (vs := rest.map (mz_c ad ao ρ)) (by simpa using h4)
    omega
theorem mz_objinit {idx x : Nat} (C : mz_Cx X cc own mz_gG F) (hd : decode cc pc = .ok (.invokespecial idx, 3)) (hx : mz_ref n x = true) (h4 : st.length ≤ 4)
    (hl : Jvm.Cond.methodLink own idx Lib.objectInit ∈ mz_gG) (hs : Jvm.Cond.instanceMethod Lib.objectInit ∈ mz_gG) (hc : Jvm.Cond.code Lib.objectInit ⟨#[0xb1]⟩ 1 none ∈ mz_gG) (hF : 1 ≤ (mz_rm X).frames ∧ 20 ≤ (mz_rm X).locals)
    (k : mz_G X (pc + 3) L st M K n top nc ns) : mz_G X pc L (x :: st) M K n top nc ns := by
  obtain ⟨p, l, e, R, s, m, args, below, meth, c, nL, D, cA, ao, ρ, A, n0, ad0, Q⟩ := X
  obtain ⟨hex, hb, hml, hown, hts, hK, hA, hFF, hV⟩ := C
  intro ad ls H locs hn0 had hZ hls hst
  rw [List.map_cons, (mz_ref_c (ad := ad) (ao := ao) (ρ := ρ) hx).1]
  refine W.objInit hex hb hown (hts _ hl) (hts _ hs) (hts _ hc) rfl (hls.1.trans hml.symm) rfl hd hF.1 ?_ (k ad ls H locs hn0 had hZ hls (List.forall_mem_cons.mp hst).2)
  show 2 * 0 + _ + 12 ≤ _
  have := mz_cats (vs := st.map (mz_c ad ao ρ)) (by simpa using h4)
  have h2 : 20 ≤ R.locals := hF.2
  omega
/-- the words from b on -/
noncomputable def mz_rd (M n : Nat) : Nat → List Nat := Nat.rec (motive := fun _ => Nat → List Nat) (fun _ => []) (fun _ ih b => mz_g M b :: ih (Nat.succ b)) n
theorem mz_rd_len (M : Nat) : ∀ n b : Nat, (mz_rd M n b).length = n
  | 0, b => rfl
  | n + 1, b => congrArg Nat.succ (mz_rd_len M n (b + 1))
theorem mz_rd_at (M : Nat) : ∀ (n b j : Nat), j < n → (mz_rd M n b).getD j 0 = mz_g M (b + j)
  | 0, b, j, h => absurd h (Nat.not_lt_zero _)
  | n + 1, b, 0, h => rfl
  | n + 1, b, j + 1, h => by
    have q := mz_rd_at M n (b + 1) j (by omega)
    rw [show b + (j + 1) = b + 1 + j by omega]
    exact q
theorem mz_rd_all (M : Nat) : ∀ (n b : Nat), ∀ w ∈ mz_rd M n b, ∃ i, w = mz_g M i
  | 0, b, w, h => nomatch h
  | n + 1, b, w, h => by
    rcases List.mem_cons.mp (show w ∈ mz_g M b :: mz_rd M n (b + 1) from h) with rfl | z
    · exact ⟨b, rfl⟩
    · exact mz_rd_all M n (b + 1) w z
theorem mz_w_upd {cA : Nat → ClassId} {ad ao : Nat → Nat} {ρ : Nat → Int32} {M' k : Nat} {e : va_E} (h : mz_K n K top) (hk : k < n) (ho : ∀ j, (j < mz_cb K k ∨ mz_cb K k + mz_cn K k ≤ j) → mz_g M' j = mz_g M j) (he : e = mz_E cA ad ao ρ M' K k) :
    (mz_w cA ad ao ρ M K n).set k (ad k, e) = mz_w cA ad ao ρ M' K n := by
  subst he
  refine List.ext_getElem? fun i => ?_
  rw [List.getElem?_set]
  by_cases hik : k = i
  · subst hik
    rw [if_pos rfl, if_pos (by rw [mz_w_len]; exact hk), mz_w_at hk]
  · rw [if_neg hik]
    by_cases hi : i < n
    · rw [mz_w_at hi, mz_w_at hi]
      congr 2
      refine mz_e_congr fun q hq => ?_
      rw [ho _ (by
        rcases Nat.lt_or_gt_of_ne hik with z | z
        · have := h.1 k i z hi; omega
        · have := h.1 i k z hk; omega)]
    · rw [List.getElem?_eq_none (by rw [mz_w_len]; omega), List.getElem?_eq_none (by rw [mz_w_len]; omega)]
theorem mz_sm_n {ρ : Nat → Int32} {w : Nat} (h : mz_sm w = true) : mz_I w = true ∧ ¬ mz_i ρ w < 0 ∧ (mz_i ρ w).toNatClampNeg = mz_q w := by
  obtain ⟨h1, h2, h3⟩ := mz_ix (ρ := ρ) (N := mz_q w + 1) h (Nat.lt_succ_self _)
  exact ⟨h1, fun z => h2 (Or.inl z), h3⟩
theorem mz_copy {idx x0 x1 i0 i1 w : Nat} (C : mz_Cx X cc own mz_gG F) (hd : decode cc pc = .ok (.invokestatic idx, 3)) (hl : Jvm.Cond.methodLink own idx arraycopyName ∈ mz_gG) (hnat : Jvm.Cond.native arraycopyName ∈ mz_gG) (hst : Jvm.Cond.static arraycopyName ∈ mz_gG) (hini : Jvm.Cond.initialized "java/lang/System" ∈ mz_gG)
    (hx0 : mz_ref n x0 = true) (hx1 : mz_ref n x1 = true) (ht0 : mz_ct K (mz_k x0) = 64 + 0) (ht1 : mz_ct K (mz_k x1) = 64 + 0) (hi0 : mz_sm i0 = true) (hi1 : mz_sm i1 = true) (hw : mz_sm w = true) (h0 : mz_q i0 + mz_q w ≤ mz_cn K (mz_k x0)) (h1 : mz_q i1 + mz_q w ≤ mz_cn K (mz_k x1)) (h4 : st.length ≤ 4)
    (hF : 1 ≤ (mz_rm X).frames ∧ 8 + (nativeFrameWords "java/lang/System" "arraycopy" 5 + 11) ≤ (mz_rm X).locals)
    (k : mz_G X (pc + 3) L st (mz_fl (mz_rd M (mz_q w) (mz_cb K (mz_k x0) + mz_q i0)) M (mz_cb K (mz_k x1) + mz_q i1)) K n top nc ns) : mz_G X pc L (w :: i1 :: x1 :: i0 :: x0 :: st) M K n top nc ns := by
  obtain ⟨p, l, e, R, s, m, args, below, meth, c, nL, D, cA, ao, ρ, A, n0, ad0, Q⟩ := X
  obtain ⟨hex, hb, hml, hown, hts, hK, hA, hFF, hV⟩ := C
  intro ad ls H locs hn0 had hZ hls hst3
  obtain ⟨hP, hD, hS, hKK, hC⟩ := hZ
  obtain ⟨a1, a2⟩ := mz_ref_c (ad := ad) (ao := ao) (ρ := ρ) hx0
  obtain ⟨b1, b2⟩ := mz_ref_c (ad := ad) (ao := ao) (ρ := ρ) hx1
  obtain ⟨u1, u2, u3⟩ := mz_sm_n (ρ := ρ) hi0
  obtain ⟨v1, v2, v3⟩ := mz_sm_n (ρ := ρ) hi1
  obtain ⟨w1, w2, w3⟩ := mz_sm_n (ρ := ρ) hw
  have hst2 : ∀ v ∈ st, mz_cl n v = true := fun v hv => hst3 v (by simp [hv])
  have hall : ∀ v ∈ mz_rd M (mz_q w) (mz_cb K (mz_k x0) + mz_q i0), v < mz_B := fun v hv => by
    obtain ⟨i, rfl⟩ := mz_rd_all _ _ _ v hv
    exact mz_g_lt _ _
  have hget : ∀ j, mz_g (mz_fl (mz_rd M (mz_q w) (mz_cb K (mz_k x0) + mz_q i0)) M (mz_cb K (mz_k x1) + mz_q i1)) j = if mz_cb K (mz_k x1) + mz_q i1 ≤ j ∧ j < mz_cb K (mz_k x1) + mz_q i1 + mz_q w then mz_g M (mz_cb K (mz_k x0) + mz_q i0 + (j - (mz_cb K (mz_k x1) + mz_q i1))) else mz_g M j := fun j => by
    rw [mz_fl_g _ _ _ _ hall, mz_rd_len]
    by_cases q : mz_cb K (mz_k x1) + mz_q i1 ≤ j ∧ j < mz_cb K (mz_k x1) + mz_q i1 + mz_q w
    · rw [if_pos q, if_pos q, mz_rd_at _ _ _ _ (by omega)]
    · rw [if_neg q, if_neg q]
  rw [List.map_cons, List.map_cons, List.map_cons, List.map_cons, List.map_cons, a1, b1, mz_cI u1, mz_cI v1, mz_cI w1]
  have e0 : (mz_w cA ad ao ρ M K n)[mz_k x0]? = some (ad (mz_k x0), .inl (cA 0, mz_cn K (mz_k x0), .inl fun j => if j < mz_cn K (mz_k x0) then mz_toI (mz_c ad ao ρ (mz_g M (mz_cb K (mz_k x0) + j))) else 0)) := by
    rw [mz_w_at a2, mz_E_arr ht0, mz_pic_i (Or.inl rfl)]
  have e1 : (mz_w cA ad ao ρ M K n)[mz_k x1]? = some (ad (mz_k x1), .inl (cA 0, mz_cn K (mz_k x1), .inl fun j => if j < mz_cn K (mz_k x1) then mz_toI (mz_c ad ao ρ (mz_g M (mz_cb K (mz_k x1) + j))) else 0)) := by
    rw [mz_w_at b2, mz_E_arr ht1, mz_pic_i (Or.inl rfl)]
  refine va_copyi hex hb (hml.trans hls.1.symm) hown (hts _ hl) (hts _ hnat) (hts _ hst) (hts _ hini) hK hP hD hS (mz_k x0) (mz_k x1) 0 0 e0 e1 (mz_tys_at (by decide)) (mz_tys_at (by decide)) rfl u2 v2 w2 (by rw [u3, w3]; exact h0) (by rw [v3, w3]; exact h1) (fun _ _ => rfl) hF.1 ?_ hd ?_
  · have := mz_cats (vs := st.map (mz_c ad ao ρ)) (by simpa using h4)
    have h2 : 8 + (nativeFrameWords "java/lang/System" "arraycopy" 5 + 11) ≤ R.locals := hF.2
    omega
  · intro H1 locs1 g1 g2 g3
    rw [u3, v3, w3, mz_w_upd (M' := mz_fl (mz_rd M (mz_q w) (mz_cb K (mz_k x0) + mz_q i0)) M (mz_cb K (mz_k x1) + mz_q i1)) hKK b2 (fun j hj => by rw [hget, if_neg (by omega)]) (by
      rw [mz_E_arr ht1, mz_pic_i (Or.inl rfl)]
      congr 4
      funext j
      simp only [va_cpy, hget]
      by_cases q : mz_q i1 ≤ j ∧ j < mz_q i1 + mz_q w
      · rw [if_pos q, if_pos (by omega), if_pos (by omega), if_pos (by omega), show mz_cb K (mz_k x0) + mz_q i0 + (mz_cb K (mz_k x1) + j - (mz_cb K (mz_k x1) + mz_q i1)) = mz_cb K (mz_k x0) + (mz_q i0 + (j - mz_q i1)) by omega]
      · rw [if_neg q]
        by_cases q2 : j < mz_cn K (mz_k x1)
        · rw [if_pos q2, if_pos q2, if_neg (by omega)]
        · rw [if_neg q2, if_neg q2])] at g1 g2
    refine k ad ls H1 locs1 hn0 had ⟨g1, g2, g3, hKK, fun i => ?_⟩ hls hst2
    rw [hget]
    split
    · exact hC _
    · exact hC _
theorem mz_castS {x ci idx N : Nat} {C0 : String} {T : u_T} {Ts : List Jvm.Cond} (C : mz_Cx X cc own Ts F) (hd : decode cc pc = .ok (.checkcast idx, 3)) (hc : vwCl[ci]? = some (C0, T, N)) (hci : ci < 64) (hlink : mz_bf X (Jvm.Cond.classLink own idx C0))
    (hx : mz_ref n x = true) (ht : mz_ct K (mz_k x) = ci) (k : mz_G X (pc + 3) L (x :: st) M K n top nc ns) : mz_G X pc L (x :: st) M K n top nc ns := by
  have hrc := mz_Rc_new (M := M) (top := top) C hx ht hci hc
  obtain ⟨p, l, e, R, s, m, args, below, meth, c, nL, D, cA, ao, ρ, A, n0, ad0, Q⟩ := X
  obtain ⟨hex, hb, hml, hown, hts, hK, hA, hFF, hV⟩ := C
  intro ad ls H locs hn0 had hZ hls hst
  obtain ⟨b, hxb, hcell⟩ := hrc ad H locs hZ
  have q := k ad ls H locs hn0 had hZ hls hst
  rw [List.map_cons, hxb] at q ⊢
  exact va_castS hex hb hown hlink (hK.1 ci _ hc).2 hcell hd q
end MZI
end
section
/-! A METHOD'S END: returns, throws, what is caught -/
/-- a method's own context: what it returns, its table, its start, its end -/
def mz_MX : mz_Xt → Option FieldType → Bool → List (Nat × Nat × Nat × Nat) → Nat → Nat → Nat → mz_Rt → Prop
  | (p, l, e, R, s, m, args, below, meth, c, nL, D, cA, ao, ρ, A, n0, ad0, Q), ret, tb, hh, M0, K0, top0, r =>
    meth.sig.returnType = ret ∧ meth.locks = false ∧ l.stackTraces = false ∧ (tb = false → ∀ x ∈ c.exceptionTable.toList, False) ∧ (tb = true → c.exceptionTable.toList = tableOf hh) ∧
    A = mz_Av (D, cA, ad0, ao, ρ, M0, K0, n0, top0, s.heap.size) ∧
    Q = vx_MQ below (mz_Qc (D, cA, ad0, ao, ρ, M0, K0, n0, top0, s.heap.size) r) (mz_XC (D, cA, ad0, ao, ρ, M0, K0, n0, top0, s.heap.size) r) args s r.2.2.2.2.2.2.1 r.2.2.2.2.2.2.2 (mz_Av (D, cA, ad0, ao, ρ, M0, K0, n0, top0, s.heap.size))
section MZE
variable {X : mz_Xt} {cc : ByteArray} {own : String} {Ts : List Jvm.Cond} {F : Nat → Nat × Nat} {pc L M K n top nc ns M0 K0 top0 : Nat} {st : List Nat} {ret : Option FieldType} {tb : Bool} {hh : List (Nat × Nat × Nat × Nat)}
theorem mz_endF {A : Nat → Prop} {s t : State} {H : Heap} {locs : List Loc} (hS : va_S A s.heap H locs) (ht : t.heap = H) : va_F A s t := by
  unfold va_F
  rw [ht]
  exact ⟨hS.1, hS.2.1⟩
theorem mz_vret (C : mz_Cx X cc own Ts F) (E : mz_MX X ret tb hh M0 K0 top0 (0, none, M, K, n, top, nc, ns)) (hd : decode cc pc = .ok (.return_, 1)) (hr : ret = none) : mz_G X pc L [] M K n top nc ns := by
  obtain ⟨p, l, e, R, s, m, args, below, meth, c, nL, D, cA, ao, ρ, A, n0, ad0, Q⟩ := X
  obtain ⟨hex, hb, hml, hown, hts, hK, hA, hFF, hV⟩ := C
  obtain ⟨e1, e2, -, -, -, rfl, rfl⟩ := E
  intro ad ls H locs hn0 had hZ hls hst
  refine vx_ret (W.vret hex hb (e1.trans hr) (fun t ht hW => ⟨⟨rfl, ad, ⟨had, hn0, by rw [ht]; exact hZ.1, hZ.2.1, hZ.2.2.2.1, hZ.2.2.2.2⟩, rfl, fun w h => nomatch h⟩, mz_endF hZ.2.2.1 ht⟩) hZ.2.2.1.2.2 hd e2)
def mz_rfit (ty : FieldType) (w : Nat) : Bool := match ty with
  | .byte => Nat.beq w 1
  | _ => mz_fit ty w
theorem mz_rfit_ok {ty : FieldType} {w : Nat} (h : mz_rfit ty w = true) (hI : mz_I w = true) (ρ : Nat → Int32) : narrow ty (.int (mz_i ρ w)) = .int (mz_i ρ w) := by
  have g : ∀ h : mz_fit ty w = true, narrow ty (.int (mz_i ρ w)) = .int (mz_i ρ w) := fun h => by
    have q := (mz_fit_ok h (fun _ => 0) (fun _ => 0) ρ).1
    rwa [mz_cI hI] at q
  cases ty with
  | byte =>
    have h1 : w = 1 := mz_bq h
    subst h1
    rfl
  | int => exact g h
  | _ => exact g h
theorem mz_iret {w : Nat} {ty : FieldType} (C : mz_Cx X cc own Ts F) (E : mz_MX X ret tb hh M0 K0 top0 (0, some w, M, K, n, top, nc, ns)) (hd : decode cc pc = .ok (.ireturn, 1)) (hr : ret = some ty) (hw : mz_I w = true) (hf : mz_rfit ty w = true) : mz_G X pc L [w] M K n top nc ns := by
  obtain ⟨p, l, e, R, s, m, args, below, meth, c, nL, D, cA, ao, ρ, A, n0, ad0, Q⟩ := X
  obtain ⟨hex, hb, hml, hown, hts, hK, hA, hFF, hV⟩ := C
  obtain ⟨e1, e2, -, -, -, rfl, rfl⟩ := E
  intro ad ls H locs hn0 had hZ hls hst
  rw [List.map_cons, mz_cI hw]
  exact vx_ret (XC := mz_XC (D, cA, ad0, ao, ρ, M0, K0, n0, top0, s.heap.size) (0, some w, M, K, n, top, nc, ns)) (W.zret (Qc := mz_Qc (D, cA, ad0, ao, ρ, M0, K0, n0, top0, s.heap.size) (0, some w, M, K, n, top, nc, ns)) (v := mz_i ρ w) (free := mz_Av (D, cA, ad0, ao, ρ, M0, K0, n0, top0, s.heap.size)) (ls := ls) (cells := nc) (slots := ns) (H := H) (locs := locs) hex hb (e1.trans hr) (mz_rfit_ok hf hw ρ)
    (fun t ht hW => ⟨⟨rfl, ad, ⟨had, hn0, by rw [ht]; exact hZ.1, hZ.2.1, hZ.2.2.2.1, hZ.2.2.2.2⟩, by show _ = Outcome.returned (some (mz_c ad ao ρ w)); rw [mz_cI hw], fun v h => by cases h; exact mz_cl_I hw⟩, mz_endF hZ.2.2.1 ht⟩) hZ.2.2.1.2.2 hd e2)
theorem mz_lret {w : Nat} (C : mz_Cx X cc own Ts F) (E : mz_MX X ret tb hh M0 K0 top0 (0, some w, M, K, n, top, nc, ns)) (hd : decode cc pc = .ok (.lreturn, 1)) (hr : ret = some .long) (hw : mz_L w = true) : mz_G X pc L [w] M K n top nc ns := by
  obtain ⟨p, l, e, R, s, m, args, below, meth, c, nL, D, cA, ao, ρ, A, n0, ad0, Q⟩ := X
  obtain ⟨hex, hb, hml, hown, hts, hK, hA, hFF, hV⟩ := C
  obtain ⟨e1, e2, -, -, -, rfl, rfl⟩ := E
  intro ad ls H locs hn0 had hZ hls hst
  rw [List.map_cons, mz_cL hw]
  exact vx_ret (XC := mz_XC (D, cA, ad0, ao, ρ, M0, K0, n0, top0, s.heap.size) (0, some w, M, K, n, top, nc, ns)) (W.lret (Qc := mz_Qc (D, cA, ad0, ao, ρ, M0, K0, n0, top0, s.heap.size) (0, some w, M, K, n, top, nc, ns)) (v := mz_l ρ w) (free := mz_Av (D, cA, ad0, ao, ρ, M0, K0, n0, top0, s.heap.size)) (ls := ls) (cells := nc) (slots := ns) (H := H) (locs := locs) hex hb (e1.trans hr)
    (fun t ht hW => ⟨⟨rfl, ad, ⟨had, hn0, by rw [ht]; exact hZ.1, hZ.2.1, hZ.2.2.2.1, hZ.2.2.2.2⟩, by show _ = Outcome.returned (some (mz_c ad ao ρ w)); rw [mz_cL hw], fun v h => by cases h; exact mz_cl_L hw⟩, mz_endF hZ.2.2.1 ht⟩) hZ.2.2.1.2.2 hd e2)
theorem mz_fret (C : mz_Cx X cc own Ts F) (E : mz_MX X ret tb hh M0 K0 top0 (0, some 7, M, K, n, top, nc, ns)) (hd : decode cc pc = .ok (.freturn, 1)) (hr : ret = some .float) : mz_G X pc L [7] M K n top nc ns := by
  obtain ⟨p, l, e, R, s, m, args, below, meth, c, nL, D, cA, ao, ρ, A, n0, ad0, Q⟩ := X
  obtain ⟨hex, hb, hml, hown, hts, hK, hA, hFF, hV⟩ := C
  obtain ⟨e1, e2, -, -, -, rfl, rfl⟩ := E
  intro ad ls H locs hn0 had hZ hls hst
  exact vx_ret (XC := mz_XC (D, cA, ad0, ao, ρ, M0, K0, n0, top0, s.heap.size) (0, some 7, M, K, n, top, nc, ns)) (W.fret (Qc := mz_Qc (D, cA, ad0, ao, ρ, M0, K0, n0, top0, s.heap.size) (0, some 7, M, K, n, top, nc, ns)) (v := 0) (free := mz_Av (D, cA, ad0, ao, ρ, M0, K0, n0, top0, s.heap.size)) (ls := ls) (cells := nc) (slots := ns) (H := H) (locs := locs) hex hb (e1.trans hr)
    (fun t ht hW => ⟨⟨rfl, ad, ⟨had, hn0, by rw [ht]; exact hZ.1, hZ.2.1, hZ.2.2.2.1, hZ.2.2.2.2⟩, rfl, fun v h => by cases h; exact mz_cl_t (by decide)⟩, mz_endF hZ.2.2.1 ht⟩) hZ.2.2.1.2.2 hd e2)
theorem mz_dret (C : mz_Cx X cc own Ts F) (E : mz_MX X ret tb hh M0 K0 top0 (0, some 8, M, K, n, top, nc, ns)) (hd : decode cc pc = .ok (.dreturn, 1)) (hr : ret = some .double) : mz_G X pc L [8] M K n top nc ns := by
  obtain ⟨p, l, e, R, s, m, args, below, meth, c, nL, D, cA, ao, ρ, A, n0, ad0, Q⟩ := X
  obtain ⟨hex, hb, hml, hown, hts, hK, hA, hFF, hV⟩ := C
  obtain ⟨e1, e2, -, -, -, rfl, rfl⟩ := E
  intro ad ls H locs hn0 had hZ hls hst
  exact vx_ret (XC := mz_XC (D, cA, ad0, ao, ρ, M0, K0, n0, top0, s.heap.size) (0, some 8, M, K, n, top, nc, ns)) (W.dret (Qc := mz_Qc (D, cA, ad0, ao, ρ, M0, K0, n0, top0, s.heap.size) (0, some 8, M, K, n, top, nc, ns)) (v := 0) (free := mz_Av (D, cA, ad0, ao, ρ, M0, K0, n0, top0, s.heap.size)) (ls := ls) (cells := nc) (slots := ns) (H := H) (locs := locs) hex hb (e1.trans hr)
    (fun t ht hW => ⟨⟨rfl, ad, ⟨had, hn0, by rw [ht]; exact hZ.1, hZ.2.1, hZ.2.2.2.1, hZ.2.2.2.2⟩, rfl, fun v h => by cases h; exact mz_cl_t (by decide)⟩, mz_endF hZ.2.2.1 ht⟩) hZ.2.2.1.2.2 hd e2)
def mz_oty (ty : FieldType) : Bool := match ty with
  | .object _ => true
  | .array _ => true
  | _ => false
theorem mz_oty_ok {ty : FieldType} (h : mz_oty ty = true) : (∃ n, ty = .object n) ∨ ∃ t, ty = .array t := by
  cases ty with
  | object n => exact Or.inl ⟨n, rfl⟩
  | array t => exact Or.inr ⟨t, rfl⟩
  | _ => cases h
theorem mz_aret {w : Nat} {ty : FieldType} (C : mz_Cx X cc own Ts F) (E : mz_MX X ret tb hh M0 K0 top0 (0, some w, M, K, n, top, nc, ns)) (hd : decode cc pc = .ok (.areturn, 1)) (hr : ret = some ty) (hw : mz_R w = true) (hf : mz_oty ty = true) : mz_G X pc L [w] M K n top nc ns := by
  obtain ⟨p, l, e, R, s, m, args, below, meth, c, nL, D, cA, ao, ρ, A, n0, ad0, Q⟩ := X
  obtain ⟨hex, hb, hml, hown, hts, hK, hA, hFF, hV⟩ := C
  obtain ⟨e1, e2, -, -, -, rfl, rfl⟩ := E
  intro ad ls H locs hn0 had hZ hls hst
  exact vx_ret (XC := mz_XC (D, cA, ad0, ao, ρ, M0, K0, n0, top0, s.heap.size) (0, some w, M, K, n, top, nc, ns)) (W.aret (Qc := mz_Qc (D, cA, ad0, ao, ρ, M0, K0, n0, top0, s.heap.size) (0, some w, M, K, n, top, nc, ns)) (v := mz_c ad ao ρ w) (free := mz_Av (D, cA, ad0, ao, ρ, M0, K0, n0, top0, s.heap.size)) (ls := ls) (cells := nc) (slots := ns) (H := H) (locs := locs) hex hb (e1.trans hr) (mz_oty_ok hf)
    (by rw [mz_cR hw]; exact mz_r_or _) (fun t ht hW => ⟨⟨rfl, ad, ⟨had, hn0, by rw [ht]; exact hZ.1, hZ.2.1, hZ.2.2.2.1, hZ.2.2.2.2⟩, rfl, fun v h => by cases h; exact hst _ List.mem_cons_self⟩, mz_endF hZ.2.2.1 ht⟩) hZ.2.2.1.2.2 hd e2)
/-- thrown past a method without a table -/
theorem mz_out {k : Nat} (C : mz_Cx X cc own Ts F) (E : mz_MX X ret false hh M0 K0 top0 (k + 1, none, M, K, n, top, nc, ns)) : mz_GX X pc L st M K n top nc ns k := by
  obtain ⟨p, l, e, R, s, m, args, below, meth, c, nL, D, cA, ao, ρ, A, n0, ad0, Q⟩ := X
  obtain ⟨hex, hb, hml, hown, hts, hK, hA, hFF, hV⟩ := C
  obtain ⟨-, e2, -, e3, -, rfl, rfl⟩ := E
  intro ad ls H locs hn0 had hZ hls hst q ce E hE hq hcv hcl
  exact vx_out (fun x hx => (e3 rfl x hx).elim) e2 hq hcv hcl (fun t ht _ => ⟨⟨k, rfl, hE, ad, had, hn0, by rw [ht]; exact hZ.1, hZ.2.1, hZ.2.2.2.1, hZ.2.2.2.2⟩, mz_endF hZ.2.2.1 ht⟩) hZ.2.2.1.2.2 (Nat.le_refl _) (Nat.le_refl _)
def mz_nms : List String := ["java/lang/RuntimeException", "java/lang/Exception"]
/-- thrown here: 'new', 'dup', the text, the constructor, 'athrow' -/
theorem mz_throw {k ik is ic ln : Nat} {cls text : String} (C : mz_Cx X cc own mz_gG F) (O : mz_OX X) (E : mz_MX X ret false hh M0 K0 top0 (k + 1, none, M, K, n, top, nc + 1, ns + 6)) (hk : mz_xs[k]? = some cls) (hf1 : Bundle.fit cls = true)
    (hg : ∀ w ∈ Jvm.Cond.classLink own ik cls :: Jvm.Cond.initialized cls :: vx_atS own ic cls mz_nms, (w ∈ mz_gG ∨ (w ∈ lw_tbl ∧ mz_nk w = true)) ∧ vx_ot w = true) (hm : (own, is, text) ∈ mz_msgs) (h4 : st.length ≤ 4)
    (d0 : decode cc pc = .ok (.new ik, 3)) (d3 : decode cc (pc + 3) = .ok (.dup, 1)) (dd : (ln = 2 ∧ decode cc (pc + 4) = .ok (.ldc is, 2)) ∨ (ln = 3 ∧ decode cc (pc + 4) = .ok (.ldc_w is, 3))) (d6 : decode cc (pc + 4 + ln) = .ok (.invokespecial ic, 3)) (d9 : decode cc (pc + 7 + ln) = .ok (.athrow, 1))
    (hR : 6 ≤ (mz_rm X).frames ∧ 100 ≤ (mz_rm X).locals ∧ nc + 1 ≤ (mz_rm X).cells ∧ ns + 6 ≤ (mz_rm X).slots) : mz_G X pc L st M K n top nc ns := by
  obtain ⟨p, l, e, R, s, m, args, below, meth, c, nL, D, cA, ao, ρ, A, n0, ad0, Q⟩ := X
  obtain ⟨hex, hb, hml, hown, hts, hK, hA, hFF, hV⟩ := C
  obtain ⟨-, e2, hl, e3, -, rfl, rfl⟩ := E
  intro ad ls H locs hn0 had hZ hls hst
  have at_ : ∀ w ∈ Jvm.Cond.classLink own ik cls :: Jvm.Cond.initialized cls :: vx_atS own ic cls mz_nms, w.before args s = true := fun w hw => by
    rcases (hg w hw).1 with z | ⟨z, z2⟩
    · exact hts w z
    · refine va_Nw.use ?_ (O.2.2.2.2.2.1 w z z2)
      cases w <;> first | rfl | cases z2
  obtain ⟨sa, hsa⟩ := O.2.2.2.1 _ hm
  have hx : ∀ t : State, s.vm.Alike t.vm → H.size ≤ t.heap.size → (∀ q : Nat, q < H.size → t.heap[q]? = H[q]?) → mz_XC (D, cA, ad0, ao, ρ, M0, K0, n0, top0, s.heap.size) (k + 1, none, M, K, n, top, nc + 1, ns + 6) cls s t := fun t _ h1 h2 =>
    ⟨⟨k, rfl, hk, ad, had, hn0, hZ.1.kept fun j q hq => h2 _ (va_at.lt (hZ.1 j q hq)), hZ.2.1, hZ.2.2.2.1, hZ.2.2.2.2⟩, Nat.le_trans hZ.2.2.1.1 h1, fun q q1 q2 => (h2 q (Nat.lt_of_lt_of_le q1 hZ.2.2.1.1)).trans (hZ.2.2.1.2.1 q q1 q2)⟩
  have hcat := mz_cats (vs := st.map (mz_c ad ao ρ)) (by simpa using h4)
  obtain ⟨r1, r2, r3, r4⟩ := hR
  change 6 ≤ R.frames at r1
  change 100 ≤ R.locals at r2
  have hnm : ∀ n ∈ mz_nms, Bundle.fit n = true := by decide +kernel
  have hl2 : mz_nms.length = 2 := rfl
  rcases dd with ⟨rfl, dd⟩ | ⟨rfl, dd⟩
  · exact vx_throwS hex hb hl hown hf1 hnm (at_ _ List.mem_cons_self) (at_ _ (List.mem_cons_of_mem _ List.mem_cons_self)) hsa (fun w hw => at_ w (List.mem_cons_of_mem _ (List.mem_cons_of_mem _ hw))) (fun w hw => (hg w hw).2) O.1.1 O.1.2 hZ.2.2.1 (hls.1.trans hml.symm)
      d0 d3 dd d6 d9 (fun x hx => (e3 rfl x hx).elim) (by omega) (by omega) r3 r4 e2 hx hZ.2.2.1.2.2 (Nat.le_refl _) (Nat.le_refl _)
  · exact vx_throwSW hex hb hl hown hf1 hnm (at_ _ List.mem_cons_self) (at_ _ (List.mem_cons_of_mem _ List.mem_cons_self)) hsa (fun w hw => at_ w (List.mem_cons_of_mem _ (List.mem_cons_of_mem _ hw))) (fun w hw => (hg w hw).2) O.1.1 O.1.2 hZ.2.2.1 (hls.1.trans hml.symm)
      d0 d3 dd d6 d9 (fun x hx => (e3 rfl x hx).elim) (by omega) (by omega) r3 r4 e2 hx hZ.2.2.1.2.2 (Nat.le_refl _) (Nat.le_refl _)
end MZE
end
section
/-! AN EXCEPTION WHOSE CONSTRUCTOR CALLS ITS SUPERCLASS'S BY ANOTHER PLACE than the library's own law has (java.util.NoSuchElementException): after the library's BundleOwnThrow, the first link of the chain by PassC.ofS_atoms at its own place -/
section MZN
variable {p : Program} {l : Launch} {e : Env} {R : Room} {s : State} {m₀ : MethodId} {args : Array Value} {below : List Frame} {meth : Method} {c : Code} {W : State} {locs : List Loc} {cells slots : Nat}
/-- the words of it -/
def mz_ownX (own : String) (ic : Nat) (cls Y : String) (ix : Nat) (rx : ByteArray) (names : List String) : List Jvm.Cond :=
  (Bundle.throwableAtoms ++ Bundle.throwableSAtoms) ++ (Bundle.passSAtoms cls Y ix rx ++ Bundle.chainSAtoms Y names) ++ ([.methodLink own ic (Bundle.initS cls), .instantiable cls 6, .selects cls Bundle.tFill0 Bundle.tFill0, .selects cls Bundle.tFill Bundle.tFill,
    .lays cls Bundle.tN "cause" "Ljava/lang/Throwable;", .lays cls Bundle.tN "stackTrace" Bundle.steD, .lays cls Bundle.tN "suppressedExceptions" Bundle.listD, .lays cls Bundle.tN "detailMessage" "Ljava/lang/String;",
    .isRef (.static Bundle.tN "UNASSIGNED_STACK" Bundle.steD), .isRef (.static Bundle.tN "SUPPRESSED_SENTINEL" Bundle.listD),
    .fieldLink Bundle.tN 198 Bundle.tN "backtrace" "Ljava/lang/Object;", .lays Bundle.tN Bundle.tN "backtrace" "Ljava/lang/Object;", .lays cls Bundle.tN "backtrace" "Ljava/lang/Object;"] : List Jvm.Cond)
set_option maxHeartbeats 4000000 in
theorem mz_ctorThrow (X : Stand p l e R s m₀ args below meth c W locs cells slots) (hexec : p.tables.exec = Jvm.exec) (htr : e.platform.stackTraces = false) {own cls Y0 : String} {names : List String} {ic ix : Nat} {rx : ByteArray}
    (x0 : decode rx 0 = .ok (.aload_n 0, 1)) (x1 : decode rx 1 = .ok (.aload_n 1, 1)) (x2 : decode rx 2 = .ok (.invokespecial ix, 3)) (x5 : decode rx 5 = .ok (.return_, 1))
    (hown : s.vm.findClass own = some m₀.cls) (hcls : Bundle.fit cls = true) (hY0 : Bundle.fit Y0 = true) (hnames : ∀ n ∈ names, Bundle.fit n = true) (h : ∀ a ∈ mz_ownX own ic cls Y0 ix rx names, a.before args s = true)
    (hlocs : ∀ x ∈ locs, ∀ cell, s.heap[x.base]? = some cell → cell.vm.isStatics = false)
    {a : Addr} {cX : ClassId} {kX : Class} (hfoundX : s.vm.findClass cls = some cX) (hkX : s.vm.classes[cX]? = some kX) (hcell : W.heap[a]? = some (freshCell cX kX)) (hnew : s.heap.size ≤ a)
    {msg : Value} (hmsg : msg.isRef = true)
    {g : JFrame} (hg : g.method = m₀) (hsize : g.locals.size = c.maxLocals) (hlocked : g.locked = none) (hentered : g.entered = []) {rest : List Value} (hstack : g.stack = msg :: .ref a :: .ref a :: rest)
    (hd6 : decode c.code g.pc = .ok (.invokespecial ic, 3)) (hd9 : decode c.code (g.pc + 3) = .ok (.athrow, 1)) (hout : ∀ x ∈ c.exceptionTable.toList, covers x (g.pc + 3) = false)
    (hRframes : names.length + 4 < R.frames) (hRlocals : 2 * g.monitorRoom + ((Value.ref a :: rest).map fun v => v.category).sum + (13 * (names.length + 2) + 42) ≤ R.locals) (hlocks : meth.locks = false) :
    ∃ U : State, Steps p.tables e below (W.setTop g) U ∧ U.status = .running ∧ Ended U below (.threw a) ∧ s.WarmedH U.vm ∧ s.sameButNew ({ U with vm := s.vm } : State) locs cells slots ∧
      ∃ ce, U.heap[a]? = some ce ∧ s.vm.findClass cls = some ce.cls ∧ ce.vm = .none := by
  have howns : e.platform.frameOwnsMonitors = true := by rw [X.admits.platform]
  have hfin : e.platform.finalization = false := by rw [X.admits.platform]
  have hpl : e.platform.magicAccessors = ({} : Platform).magicAccessors := by rw [X.admits.platform]
  have hin1 : ∀ x, x ∈ Bundle.throwableAtoms → x.before args s = true := fun x hx => h x (List.mem_append_left _ (List.mem_append_left _ (List.mem_append_left _ hx)))
  have hin2 : ∀ x, x ∈ Bundle.throwableSAtoms → x.before args s = true := fun x hx => h x (List.mem_append_left _ (List.mem_append_left _ (List.mem_append_right _ hx)))
  have hin3 : ∀ x, x ∈ Bundle.passSAtoms cls Y0 ix rx → x.before args s = true := fun x hx => h x (List.mem_append_left _ (List.mem_append_right _ (List.mem_append_left _ hx)))
  have hin4 : ∀ x, x ∈ Bundle.chainSAtoms Y0 names → x.before args s = true := fun x hx => h x (List.mem_append_left _ (List.mem_append_right _ (List.mem_append_right _ hx)))
  have ha : ∀ x, x ∈ mz_ownX own ic cls Y0 ix rx names → x.holds args s none s [] = true := fun x hx => h x hx
  have at_ : ∀ (x : Jvm.Cond) {L : List Jvm.Cond}, x ∈ L → L = mz_ownX own ic cls Y0 ix rx names → x.holds args s none s [] = true := fun x L hx e => ha x (e ▸ hx)
  obtain ⟨T, Z0, L, -, Y⟩ := ThrowableC.of_atoms (args := args) howns hfin hpl hin1
  obtain ⟨Z, M, LZ, LM, hnZ⟩ := Init0T.ofS_atoms (args := args) hpl L Y hin2
  obtain ⟨P1, L1, hP1m, hP1s⟩ := PassC.ofS_atoms (args := args) (s := s) hpl (X := cls) (Y := Y0) (Bundle.fit_spec hcls).1 (Bundle.fit_spec hY0).2 x0 x1 x2 x5 hin3
  obtain ⟨P2, Ps, hlen, L2, hL, hP2m, hlink1, hlink⟩ := Bundle.chainS (args := args) hpl hnZ names Y0 hY0 hnames hin4
  have hlink0 : P1.sup = P2.m := Option.some.inj (hP1s.symm.trans hP2m)
  have own_ : ∀ x : Jvm.Cond, x ∈ ([.methodLink own ic (Bundle.initS cls), .instantiable cls 6, .selects cls Bundle.tFill0 Bundle.tFill0, .selects cls Bundle.tFill Bundle.tFill,
    .lays cls Bundle.tN "cause" "Ljava/lang/Throwable;", .lays cls Bundle.tN "stackTrace" Bundle.steD, .lays cls Bundle.tN "suppressedExceptions" Bundle.listD, .lays cls Bundle.tN "detailMessage" "Ljava/lang/String;",
    .isRef (.static Bundle.tN "UNASSIGNED_STACK" Bundle.steD), .isRef (.static Bundle.tN "SUPPRESSED_SENTINEL" Bundle.listD),
    .fieldLink Bundle.tN 198 Bundle.tN "backtrace" "Ljava/lang/Object;", .lays Bundle.tN Bundle.tN "backtrace" "Ljava/lang/Object;", .lays cls Bundle.tN "backtrace" "Ljava/lang/Object;"] : List Jvm.Cond) → x.before args s = true := fun x hx => h x (List.mem_append_right _ hx)
  have hfound : s.vm.findClass cls = some P1.m.cls := findClass_of_methodNamed hP1m
  cases Option.some.inj (hfoundX.symm.trans hfound)
  obtain ⟨c1, kX', hc1, hk, hord, -, -, hn6⟩ := Cond.instantiable_spec (own_ (.instantiable cls 6) (by simp))
  cases Option.some.inj (hc1.symm.trans hfound)
  cases Option.some.inj (hkX.symm.trans hk)
  have hsel0 : selectMethod e.platform s.vm P1.m.cls T.fill0 = .method T.fill0 := by
    obtain ⟨c2, r2, m2, q1, q2, q3, q4, -⟩ := Cond.selects_spec (own_ (.selects cls Bundle.tFill0 Bundle.tFill0) (by simp))
    cases Option.some.inj (q1.symm.trans hfound)
    cases Option.some.inj (q2.symm.trans (State.methodFound?_of_named Y.fill0 (by decide)))
    cases Option.some.inj (q3.symm.trans Y.fill0)
    rw [Launch.admits_selectMethod X.admits]; exact q4
  have hselF : selectMethod e.platform s.vm P1.m.cls T.fill = .method T.fill := by
    obtain ⟨c2, r2, m2, q1, q2, q3, q4, -⟩ := Cond.selects_spec (own_ (.selects cls Bundle.tFill Bundle.tFill) (by simp))
    cases Option.some.inj (q1.symm.trans hfound)
    cases Option.some.inj (q2.symm.trans (State.methodFound?_of_named Y.fill (by decide)))
    cases Option.some.inj (q3.symm.trans Y.fill)
    rw [Launch.admits_selectMethod X.admits]; exact q4
  obtain ⟨cellS0, hcS0, hiss⟩ := Y.statics
  obtain ⟨u0, hu0⟩ := Cond.staticRefV Y.unassigned L.unassignedStatic L.statics hcS0 hiss (own_ (.isRef (.static Bundle.tN "UNASSIGNED_STACK" Bundle.steD)) (by simp))
  obtain ⟨sen, hsen⟩ := Cond.staticRefV Y.sentinel L.sentinelStatic L.statics hcS0 hiss (own_ (.isRef (.static Bundle.tN "SUPPRESSED_SENTINEL" Bundle.listD)) (by simp))
  obtain ⟨ci198, i198, fB, hk198, hg198, ha198, hsB, -, hnB, htB, hffB⟩ := Cond.ownField (t := .object "java/lang/Object") Y.found L.cls (by decide +kernel) (own_ (.fieldLink Bundle.tN 198 Bundle.tN "backtrace" "Ljava/lang/Object;") (by simp)) (own_ (.lays Bundle.tN Bundle.tN "backtrace" "Ljava/lang/Object;") (by simp)) e.platform hpl
  obtain ⟨cellS, hcS', heS, -, hkeep⟩ := X.same.2.2.2.2.2 T.aS cellS0 hcS0
  have hcellS : W.heap[T.aS]? = some cellS := hcS'
  have hout' : ∀ i, (⟨T.aS, i⟩ : Loc) ∉ locs := fun i hmem => by
    have := hlocs _ hmem cellS0 hcS0
    rw [hiss] at this; cases this
  have hknownS : cellS.vm ≠ .unknown := by
    rw [heS]; intro hu
    rw [show cellS0.vm = .unknown from hu] at hiss
    cases hiss
  have hneS : T.aS ≠ a := Nat.ne_of_lt (Nat.lt_of_lt_of_le (Array.getElem?_eq_some_iff.mp hcS0).1 hnew)
  obtain ⟨iM, hffM⟩ := Y.msg
  obtain ⟨tyC, dC, hdC, hdnC⟩ := Cond.laysAt hfound hk Y.cause (own_ (.lays cls Bundle.tN "cause" "Ljava/lang/Throwable;") (by simp))
  obtain ⟨tyS, dS, hdS, hdnS⟩ := Cond.laysAt hfound hk Y.stack (own_ (.lays cls Bundle.tN "stackTrace" Bundle.steD) (by simp))
  obtain ⟨tyP, dP, hdP, hdnP⟩ := Cond.laysAt hfound hk Y.supp (own_ (.lays cls Bundle.tN "suppressedExceptions" Bundle.listD) (by simp))
  obtain ⟨tyM, dM, hdM, hdnM⟩ := Cond.laysAt hfound hk hffM (own_ (.lays cls Bundle.tN "detailMessage" "Ljava/lang/String;") (by simp))
  obtain ⟨tyB, dB, hdB, hdnB⟩ := Cond.laysAt hfound hk hffB (own_ (.lays cls Bundle.tN "backtrace" "Ljava/lang/Object;") (by simp))
  have bC := Cond.laysApart hdB hdC hdnB hdnC (by rw [hnB, Y.causeName]; decide)
  have bS := Cond.laysApart hdB hdS hdnB hdnS (by rw [hnB, Y.stackName]; decide)
  have bP := Cond.laysApart hdB hdP hdnB hdnP (by rw [hnB, Y.suppName]; decide)
  have hskip : SkipFacts T e.platform s (fun u => u) u0 ((preparedCellV T.toThrowableT (freshCell P1.m.cls kX) a u0 sen).withEntry W.cur) :=
    ⟨{ ci198 := ci198, i198 := i198, fBack := fB }, ⟨hk198, hg198, ha198, hsB⟩, by
      have := fresh_default (c := P1.m.cls) tyB
      rw [htB] at this
      simpa [preparedCellV, Cell.setSlot, Cell.withEntry, Array.getElem?_setIfInBounds, bC, bS, bP, bC.symm, bS.symm, bP.symm, defaultValue] using this, fun _ _ => rfl⟩
  obtain ⟨tm, methC, cdC, kC, vm₁, hnC, -, -, -, -, -, -, -, hW₁, st1⟩ := Steps.initColdS (tb := p.tables) (e := e) (below := below) (s := s) (U := W) X.here hexec X.warmed hpl hown (t := Bundle.initS cls) rfl rfl (Bundle.fit_spec hcls).2
    (own_ (.methodLink own ic (Bundle.initS cls)) (by simp)) (hin3 (.instanceMethod (Bundle.initS cls)) (by simp [Bundle.passSAtoms])) (bytes := rx) (maxL := 2) (hin3 (.code (Bundle.initS cls) rx 2 none) (by simp [Bundle.passSAtoms]))
    (f := g) hg (a := a) (msg := msg) (rest := .ref a :: rest) hstack hd6
  cases Option.some.inj (hnC.symm.trans hP1m)
  have X₁ := X.noted hW₁
  obtain ⟨vm₂, X₂, st2⟩ := X₁.ctorMessageOffV hexec (g := { g with stack := .ref a :: rest }) hg hsize T L Z LZ M LM (P1 :: P2 :: Ps)
    (fun P hP => by
      rcases List.mem_cons.mp hP with rfl | hP
      · exact L1
      · rcases List.mem_cons.mp hP with rfl | hP
        · exact L2
        · exact hL P hP) ⟨hlink0, hlink1, hlink⟩ (u0 := u0) (sen := sen) (self := a) hmsg (cell := freshCell P1.m.cls kX) (cellS := cellS)
    hcell (fun _ => by simp) (by simp) rfl rfl hsel0 hselF hcellS hneS hknownS (by rw [hkeep _ (hout' _)]; exact hu0) (by rw [hkeep _ (hout' _)]; exact hsen)
    (Takes.of_laid hk hord tyC (by rw [Y.causeType]; rfl)) (Takes.of_laid hk hord tyS (by rw [Y.stackType]; exact fits_refV_array _ u0)) (Takes.of_laid hk hord tyP (by rw [Y.suppType]; exact fits_refV_object _ sen))
    (Takes.of_laid hk hord tyM (by rw [Y.msgType]; exact fits_refV_object _ ⟨msg, hmsg⟩)) Y.objLocals hskip htr [] hd6
    (by simp only [List.length_cons, hlen]; omega) (by simp only [List.length_cons, hlen]; exact hRlocals)
  obtain ⟨hwalk, hrun, hended, hWU, hsame⟩ := X₂.athrowLeaves hexec (g := { g with stack := .ref a :: rest, pc := g.pc + 3 }) hg hlocked hentered hout (a := a) (rest := rest) rfl hd9
  have hlt : a < ((W.setVm vm₁).setVm vm₂).heap.size := (Array.getElem?_eq_some_iff.mp hcell).1
  have hU := heapAt_setCell_self (s := (W.setVm vm₁).setVm vm₂) (plainBareV T.toThrowableT (freshCell P1.m.cls kX) a u0 sen msg) hlt
  refine ⟨_, st1 _ (fun acts => ?_), hrun, hended, hWU, hsame.weaken (fun y hy hlt' => ?_) (Nat.le_refl _) (Nat.le_refl _), _, hU, hfound, rfl⟩
  · rw [doInvoke_state]
    exact st2 _ hwalk
  · rcases List.mem_append.mp hy with h1 | h1
    · exact h1
    · exfalso
      have hb : y.base = a := by
        simp only [List.mem_cons, List.not_mem_nil, or_false] at h1
        rcases h1 with rfl | rfl | rfl | rfl | rfl <;> rfl
      rw [hb] at hlt'
      exact Nat.not_lt.mpr hnew hlt'
end MZN
section MZN2
variable {p : Program} {l : Launch} {e : Env} {R : Room} {s : State} {m : MethodId} {args : Array Value} {below : List Frame} {meth : Method} {c : Code} {H : Heap} {locs : List Loc} {cells slots : Nat}
variable {free : Addr → Prop} {ls : Array Slot} {rest : List Value} {Qc : Array Value → State → Outcome → State → Prop} {XC : String → State → State → Prop}
def mz_atX (own : String) (ic : Nat) (cls Y : String) (ix : Nat) (rx : ByteArray) (names : List String) : List Jvm.Cond := (mz_ownX own ic cls Y ix rx names).filter vx_no
/-- 'throw new E("text")' of such an exception (after vx_throwS) -/
theorem mz_throwX {cc rx : ByteArray} {pc ln : Nat} (hexec : p.tables.exec = Jvm.exec) (hb : c.code = cc) (hl : l.stackTraces = false) {own cls Y0 text : String} {names : List String} {ik is ic ix mc ms sa : Nat} {A : Nat → Prop}
    (x0 : decode rx 0 = .ok (.aload_n 0, 1)) (x1 : decode rx 1 = .ok (.aload_n 1, 1)) (x2 : decode rx 2 = .ok (.invokespecial ix, 3)) (x5 : decode rx 5 = .ok (.return_, 1))
    (hown : s.vm.findClass own = some m.cls) (hcls : Bundle.fit cls = true) (hY0 : Bundle.fit Y0 = true) (hnames : ∀ n ∈ names, Bundle.fit n = true)
    (hk : (Cond.classLink own ik cls).before args s = true) (hini : (Cond.initialized cls).before args s = true) (hstr : vk_R own is text sa s) (hat : ∀ w ∈ mz_atX own ic cls Y0 ix rx names, w.before args s = true)
    (hgood : ∀ w ∈ Cond.classLink own ik cls :: Cond.initialized cls :: mz_atX own ic cls Y0 ix rx names, vx_ot w = true)
    (hU : vx_Zq Bundle.tN "UNASSIGNED_STACK" Bundle.steD A s s.heap) (hN : vx_Zq Bundle.tN "SUPPRESSED_SENTINEL" Bundle.listD A s s.heap) (hS : va_S A s.heap H locs) (hsize : ls.size = c.maxLocals)
    (d0 : decode cc pc = .ok (.new ik, 3)) (d3 : decode cc (pc + 3) = .ok (.dup, 1)) (dd : (ln = 2 ∧ decode cc (pc + 4) = .ok (.ldc is, 2)) ∨ (ln = 3 ∧ decode cc (pc + 4) = .ok (.ldc_w is, 3))) (d6 : decode cc (pc + 4 + ln) = .ok (.invokespecial ic, 3)) (d9 : decode cc (pc + 4 + ln + 3) = .ok (.athrow, 1))
    (hout : ∀ x ∈ c.exceptionTable.toList, covers x (pc + 4 + ln + 3) = false)
    (hRframes : names.length + 4 < R.frames) (hRlocals : (rest.map fun v => v.category).sum + (13 * (names.length + 2) + 43) ≤ R.locals) (hRcells : cells + 1 ≤ R.cells) (hRslots : slots + 6 ≤ R.slots) (hlocks : meth.locks = false)
    (hx : ∀ t : State, s.vm.Alike t.vm → H.size ≤ t.heap.size → (∀ q : Nat, q < H.size → t.heap[q]? = H[q]?) → XC cls s t)
    (hf : ∀ z ∈ locs, free z.base) (hc : cells + 1 ≤ mc) (hs : slots + 6 ≤ ms) :
    W p l e R s m args below meth c H locs cells slots (vx_MQ below Qc XC args s mc ms free) (F0 m pc ls rest) := by
  intro T hT X
  have htr : e.platform.stackTraces = false := (show e.platform.stackTraces = l.stackTraces by rw [X.admits.platform]).trans hl
  have Y := vx_rebase X (R' := { frames := R.frames, locals := R.locals, cells := 1, slots := 6 }) (Nat.le_refl _) (Nat.le_refl _) hRcells hRslots
  obtain ⟨s', hA⟩ : ∃ z, z = (T.setVm s.vm).setFrames (.invoking m args :: below) := ⟨_, rfl⟩
  rw [← hA] at Y
  have hvm : s'.vm = s.vm := by rw [hA]; rfl
  have hhp : s'.heap = H := by rw [hA]; exact hT
  have hW0 : s.WarmedH s'.vm := by rw [hvm]; exact State.WarmedH.refl s
  have hat' : ∀ w ∈ mz_atX own ic cls Y0 ix rx names, w.before args s' = true := fun w hw => vx_ot_at hW0 hvm.symm (hgood w (List.mem_cons_of_mem _ (List.mem_cons_of_mem _ hw))) (hat w hw)
  have hk' : (Cond.classLink own ik cls).before args s' = true := vx_ot_at hW0 hvm.symm (hgood _ List.mem_cons_self) hk
  have hini' : (Cond.initialized cls).before args s' = true := vx_ot_at hW0 hvm.symm (hgood _ (List.mem_cons_of_mem _ List.mem_cons_self)) hini
  have hU' : vx_Zq Bundle.tN "UNASSIGNED_STACK" Bundle.steD A s' s'.heap := by rw [hhp]; exact vx_Zq.moved hW0.alike (hU.kept hS.2.1)
  have hN' : vx_Zq Bundle.tN "SUPPRESSED_SENTINEL" Bundle.listD A s' s'.heap := by rw [hhp]; exact vx_Zq.moved hW0.alike (hN.kept hS.2.1)
  have h : ∀ w ∈ mz_ownX own ic cls Y0 ix rx names, w.before args s' = true := vx_own hat' (vx_isRefq hU'.1) (vx_isRefq hN'.1) hU'.2.word hN'.2.word
  have hown' : s'.vm.findClass own = some m.cls := by rw [hvm]; exact hown
  have hins : (Cond.instantiable cls 6).before args s' = true := h _ (by simp [mz_ownX])
  obtain ⟨vm₁, cX, kX, hfX, hkX, -, -, X₁, st1⟩ := Y.newCold hexec (own := own) (C := cls) (index := ik) (n := 6) hown' hk' hins hini'
    (g := F0 m pc ls rest) rfl (by rw [hb]; exact d0) (Nat.le_refl _) (Nat.le_refl _)
  generalize hT1 : (T.setVm vm₁).pushCell { cls := cX, slots := kX.instanceTypes.map defaultValue, vm := .none } = T1 at X₁ st1
  have hcat : (Value.ref T.heap.size).category = 1 := rfl
  have hcellA : T1.heap[T.heap.size]? = some (freshCell cX kX) := by rw [← hT1]; exact State.heap_pushCell_size _ _
  have d3' : decode c.code (pc + 3) = .ok (.dup, 1) := by rw [hb]; exact d3
  have hstr' : vk_R own is text sa s' := vk_R.warm hW0 hstr
  obtain ⟨U, hsteps, hrun, hend, hW, hsame, ce, hce, hcl9, hcv⟩ := mz_ctorThrow X₁ hexec htr (own := own) (cls := cls) (names := names) (ic := ic) x0 x1 x2 x5 hown' hcls hY0 hnames h (fun x hx => nomatch hx) hfX hkX hcellA (by rw [hhp, hT]; exact Nat.le_refl _) (msg := .ref sa) rfl
    (g := { method := m, pc := pc + 4 + ln, locals := ls, stack := .ref sa :: .ref T.heap.size :: .ref T.heap.size :: rest, locked := none }) rfl hsize rfl rfl (rest := rest) rfl
    (by rw [hb]; exact d6) (by rw [hb]; exact d9) hout hRframes (by
      show 2 * 0 + ((Value.ref T.heap.size :: rest).map fun v => v.category).sum + _ ≤ R.locals
      simp only [List.map_cons, List.sum_cons, hcat]
      omega) hlocks
  obtain ⟨f1, f2⟩ := vx_frame hsame
  rw [hhp] at f1 f2
  have hWs : s.WarmedH U.vm := State.WarmedH.trans hW0 hW
  have hcl : s.vm.findClass cls = some ce.cls := by rw [hvm] at hcl9; exact hcl9
  have hall : s.sameButNew ({ U with vm := s.vm } : State) locs mc ms := by
    subst hA
    obtain ⟨e1, e2⟩ := hsame
    rw [State.setFrames_setFrames] at e1
    have h2 : (T.setVm s.vm).sameButNew ({ U with vm := s.vm } : State) [] (0 + 1) (0 + 6) := ⟨e1, e2⟩
    have h3 := X.same.trans h2
    rw [List.append_nil] at h3
    exact h3.mono hc hs
  refine ⟨U, ?_, .threw T.heap.size, hrun, hend, Or.inr ⟨T.heap.size, rfl, cls, ce, locs, hx U hWs.alike f1 (fun q hq => f2 q hq (fun z hz => nomatch hz)), hce, hcv, hcl, hWs, hall, hf⟩⟩
  refine st1 _ ?_
  show Steps p.tables e below (T1.setTop { method := m, pc := pc + 3, locals := ls, stack := .ref T.heap.size :: rest, locked := none }) _
  jvm_step X₁.here [X₁.here.top, hexec, d3', Value.category]
  rcases dd with ⟨rfl, dd⟩ | ⟨rfl, dd⟩
  · have d4' : decode c.code (pc + 4) = .ok (.ldc is, 2) := by rw [hb]; exact dd
    exact X₁.ldcString hexec (own := own) (text := text) (index := is) (a := sa) hown' hstr'.1 hstr'.2
      (g := { method := m, pc := pc + 4, locals := ls, stack := .ref T.heap.size :: .ref T.heap.size :: rest, locked := none }) rfl d4' _ hsteps
  · have d4' : decode c.code (pc + 4) = .ok (.ldc_w is, 3) := by rw [hb]; exact dd
    exact X₁.ldcStringW hexec (own := own) (text := text) (index := is) (a := sa) hown' hstr'.1 hstr'.2
      (g := { method := m, pc := pc + 4, locals := ls, stack := .ref T.heap.size :: .ref T.heap.size :: rest, locked := none }) rfl d4' _ hsteps
end MZN2
section MZN3
variable {X : mz_Xt} {cc : ByteArray} {own : String} {F : Nat → Nat × Nat} {pc L M K n top nc ns M0 K0 top0 : Nat} {st : List Nat} {ret : Option FieldType} {hh : List (Nat × Nat × Nat × Nat)}
theorem mz_throwN {k ik is ic ix ln : Nat} {rx : ByteArray} {cls text : String} (C : mz_Cx X cc own mz_gG F) (O : mz_OX X) (E : mz_MX X ret false hh M0 K0 top0 (k + 1, none, M, K, n, top, nc + 1, ns + 6)) (hk : mz_xs[k]? = some cls) (hf1 : Bundle.fit cls = true)
    (x0 : decode rx 0 = .ok (.aload_n 0, 1)) (x1 : decode rx 1 = .ok (.aload_n 1, 1)) (x2 : decode rx 2 = .ok (.invokespecial ix, 3)) (x5 : decode rx 5 = .ok (.return_, 1))
    (hg : ∀ w ∈ Jvm.Cond.classLink own ik cls :: Jvm.Cond.initialized cls :: mz_atX own ic cls "java/lang/RuntimeException" ix rx ["java/lang/Exception"], (w ∈ mz_gG ∨ (w ∈ lw_tbl ∧ mz_nk w = true)) ∧ vx_ot w = true) (hm : (own, is, text) ∈ mz_msgs) (h4 : st.length ≤ 4)
    (d0 : decode cc pc = .ok (.new ik, 3)) (d3 : decode cc (pc + 3) = .ok (.dup, 1)) (dd : (ln = 2 ∧ decode cc (pc + 4) = .ok (.ldc is, 2)) ∨ (ln = 3 ∧ decode cc (pc + 4) = .ok (.ldc_w is, 3))) (d6 : decode cc (pc + 4 + ln) = .ok (.invokespecial ic, 3)) (d9 : decode cc (pc + 4 + ln + 3) = .ok (.athrow, 1))
    (hR : 6 ≤ (mz_rm X).frames ∧ 100 ≤ (mz_rm X).locals ∧ nc + 1 ≤ (mz_rm X).cells ∧ ns + 6 ≤ (mz_rm X).slots) : mz_G X pc L st M K n top nc ns := by
  obtain ⟨p, l, e, R, s, m, args, below, meth, c, nL, D, cA, ao, ρ, A, n0, ad0, Q⟩ := X
  obtain ⟨hex, hb, hml, hown, hts, hK, hA, hFF, hV⟩ := C
  obtain ⟨-, e2, hl, e3, -, rfl, rfl⟩ := E
  intro ad ls H locs hn0 had hZ hls hst
  have at_ : ∀ w ∈ Jvm.Cond.classLink own ik cls :: Jvm.Cond.initialized cls :: mz_atX own ic cls "java/lang/RuntimeException" ix rx ["java/lang/Exception"], w.before args s = true := fun w hw => by
    rcases (hg w hw).1 with z | ⟨z, z2⟩
    · exact hts w z
    · refine va_Nw.use ?_ (O.2.2.2.2.2.1 w z z2)
      cases w <;> first | rfl | cases z2
  obtain ⟨sa, hsa⟩ := O.2.2.2.1 _ hm
  have hx : ∀ t : State, s.vm.Alike t.vm → H.size ≤ t.heap.size → (∀ q : Nat, q < H.size → t.heap[q]? = H[q]?) → mz_XC (D, cA, ad0, ao, ρ, M0, K0, n0, top0, s.heap.size) (k + 1, none, M, K, n, top, nc + 1, ns + 6) cls s t := fun t _ h1 h2 =>
    ⟨⟨k, rfl, hk, ad, had, hn0, hZ.1.kept fun j q hq => h2 _ (va_at.lt (hZ.1 j q hq)), hZ.2.1, hZ.2.2.2.1, hZ.2.2.2.2⟩, Nat.le_trans hZ.2.2.1.1 h1, fun q q1 q2 => (h2 q (Nat.lt_of_lt_of_le q1 hZ.2.2.1.1)).trans (hZ.2.2.1.2.1 q q1 q2)⟩
  have hcat := mz_cats (vs := st.map (mz_c ad ao ρ)) (by simpa using h4)
  obtain ⟨r1, r2, r3, r4⟩ := hR
  change 6 ≤ R.frames at r1
  change 100 ≤ R.locals at r2
  have hnm : ∀ n ∈ ["java/lang/Exception"], Bundle.fit n = true := by decide +kernel
  exact mz_throwX hex hb hl x0 x1 x2 x5 hown hf1 (by decide +kernel) hnm (at_ _ List.mem_cons_self) (at_ _ (List.mem_cons_of_mem _ List.mem_cons_self)) hsa (fun w hw => at_ w (List.mem_cons_of_mem _ (List.mem_cons_of_mem _ hw))) (fun w hw => (hg w hw).2) O.1.1 O.1.2 hZ.2.2.1 (hls.1.trans hml.symm)
    d0 d3 dd d6 d9 (fun x hx => (e3 rfl x hx).elim) (by show 1 + 4 < R.frames; omega) (by show _ + (13 * (1 + 2) + 43) ≤ R.locals; omega) r3 r4 e2 hx hZ.2.2.1.2.2 (Nat.le_refl _) (Nat.le_refl _)
end MZN3
end
section
/-! Math.max, Math.min, Math.abs -/
section MZM
variable {X : mz_Xt} {cc : ByteArray} {own : String} {F : Nat → Nat × Nat} {pc L M K n top nc ns : Nat} {st : List Nat}
theorem mz_mmaxG {x y w idx : Nat} (C : mz_Cx X cc own mz_gG F) (hd : decode cc pc = .ok (.invokestatic idx, 3)) (hl : Jvm.Cond.methodLink own idx Lib.Math.max.name ∈ mz_gG) (hs : Jvm.Cond.static Lib.Math.max.name ∈ mz_gG) (hi : Jvm.Cond.initialized "java/lang/Math" ∈ mz_gG) (hc : Jvm.Cond.code Lib.Math.max.name Lib.Math.max.code 2 (some .int) ∈ mz_gG)
    (hx : mz_I x = true) (hy : mz_I y = true) (hw : mz_I w = true) (he : mz_i (mz_rho X) w = if mz_i (mz_rho X) x < mz_i (mz_rho X) y then mz_i (mz_rho X) y else mz_i (mz_rho X) x) (h4 : st.length ≤ 4) (hF : 1 ≤ (mz_rm X).frames ∧ 21 ≤ (mz_rm X).locals ∧ nc ≤ (mz_rm X).cells ∧ ns ≤ (mz_rm X).slots)
    (k : mz_G X (pc + 3) L (w :: st) M K n top nc ns) : mz_G X pc L (y :: x :: st) M K n top nc ns := by
  obtain ⟨p, l, e, R, s, m, args, below, meth, c, nL, D, cA, ao, ρ, A, n0, ad0, Q⟩ := X
  obtain ⟨hex, hb, hml, hown, hts, hK, hA, hFF, hV⟩ := C
  change mz_i ρ w = if mz_i ρ x < mz_i ρ y then mz_i ρ y else mz_i ρ x at he
  obtain ⟨r1, r2, r3, r4⟩ := hF
  intro ad ls H locs hn0 had hZ hls hst
  have q := k ad ls H locs hn0 had hZ hls (mz_hd (mz_cl_I hw) (List.forall_mem_cons.mp (List.forall_mem_cons.mp hst).2).2)
  rw [List.map_cons, mz_cI hw, he] at q
  rw [List.map_cons, List.map_cons, mz_cI hx, mz_cI hy]
  have hcat := mz_cats (vs := st.map (mz_c ad ao ρ)) (by simpa using h4)
  change 21 ≤ R.locals at r2
  change 1 ≤ R.frames at r1
  change nc ≤ R.cells at r3
  change ns ≤ R.slots at r4
  exact va_mmax (rest := st.map (mz_c ad ao ρ)) hex hb (hml.trans hls.1.symm) hown (hts _ hl) (hts _ hs) (hts _ hi) (hts _ hc) r1 (by omega) r3 r4 hd q
theorem mz_mminG {x y w idx : Nat} (C : mz_Cx X cc own mz_gG F) (hd : decode cc pc = .ok (.invokestatic idx, 3)) (hl : Jvm.Cond.methodLink own idx Lib.Math.min.name ∈ mz_gG) (hs : Jvm.Cond.static Lib.Math.min.name ∈ mz_gG) (hi : Jvm.Cond.initialized "java/lang/Math" ∈ mz_gG) (hc : Jvm.Cond.code Lib.Math.min.name Lib.Math.min.code 2 (some .int) ∈ mz_gG)
    (hx : mz_I x = true) (hy : mz_I y = true) (hw : mz_I w = true) (he : mz_i (mz_rho X) w = if mz_i (mz_rho X) y < mz_i (mz_rho X) x then mz_i (mz_rho X) y else mz_i (mz_rho X) x) (h4 : st.length ≤ 4) (hF : 1 ≤ (mz_rm X).frames ∧ 21 ≤ (mz_rm X).locals ∧ nc ≤ (mz_rm X).cells ∧ ns ≤ (mz_rm X).slots)
    (k : mz_G X (pc + 3) L (w :: st) M K n top nc ns) : mz_G X pc L (y :: x :: st) M K n top nc ns := by
  obtain ⟨p, l, e, R, s, m, args, below, meth, c, nL, D, cA, ao, ρ, A, n0, ad0, Q⟩ := X
  obtain ⟨hex, hb, hml, hown, hts, hK, hA, hFF, hV⟩ := C
  change mz_i ρ w = if mz_i ρ y < mz_i ρ x then mz_i ρ y else mz_i ρ x at he
  obtain ⟨r1, r2, r3, r4⟩ := hF
  intro ad ls H locs hn0 had hZ hls hst
  have q := k ad ls H locs hn0 had hZ hls (mz_hd (mz_cl_I hw) (List.forall_mem_cons.mp (List.forall_mem_cons.mp hst).2).2)
  rw [List.map_cons, mz_cI hw, he] at q
  rw [List.map_cons, List.map_cons, mz_cI hx, mz_cI hy]
  have hcat := mz_cats (vs := st.map (mz_c ad ao ρ)) (by simpa using h4)
  change 21 ≤ R.locals at r2
  change 1 ≤ R.frames at r1
  change nc ≤ R.cells at r3
  change ns ≤ R.slots at r4
  exact va_mmin (rest := st.map (mz_c ad ao ρ)) hex hb (hml.trans hls.1.symm) hown (hts _ hl) (hts _ hs) (hts _ hi) (hts _ hc) r1 (by omega) r3 r4 hd q
theorem mz_mabsG {x w idx : Nat} (C : mz_Cx X cc own mz_gG F) (hd : decode cc pc = .ok (.invokestatic idx, 3)) (hl : Jvm.Cond.methodLink own idx Lib.Math.abs.name ∈ mz_gG) (hs : Jvm.Cond.static Lib.Math.abs.name ∈ mz_gG) (hi : Jvm.Cond.initialized "java/lang/Math" ∈ mz_gG) (hc : Jvm.Cond.code Lib.Math.abs.name Lib.Math.abs.code 1 (some .int) ∈ mz_gG)
    (hx : mz_I x = true) (hw : mz_I w = true) (he : mz_i (mz_rho X) w = if 0 ≤ mz_i (mz_rho X) x then mz_i (mz_rho X) x else 0 - mz_i (mz_rho X) x) (h4 : st.length ≤ 4) (hF : 1 ≤ (mz_rm X).frames ∧ 21 ≤ (mz_rm X).locals ∧ nc ≤ (mz_rm X).cells ∧ ns ≤ (mz_rm X).slots)
    (k : mz_G X (pc + 3) L (w :: st) M K n top nc ns) : mz_G X pc L (x :: st) M K n top nc ns := by
  obtain ⟨p, l, e, R, s, m, args, below, meth, c, nL, D, cA, ao, ρ, A, n0, ad0, Q⟩ := X
  obtain ⟨hex, hb, hml, hown, hts, hK, hA, hFF, hV⟩ := C
  change mz_i ρ w = if 0 ≤ mz_i ρ x then mz_i ρ x else 0 - mz_i ρ x at he
  obtain ⟨r1, r2, r3, r4⟩ := hF
  intro ad ls H locs hn0 had hZ hls hst
  have q := k ad ls H locs hn0 had hZ hls (mz_hd (mz_cl_I hw) (List.forall_mem_cons.mp hst).2)
  rw [List.map_cons, mz_cI hw, he] at q
  rw [List.map_cons, mz_cI hx]
  have hcat := mz_cats (vs := st.map (mz_c ad ao ρ)) (by simpa using h4)
  change 21 ≤ R.locals at r2
  change 1 ≤ R.frames at r1
  change nc ≤ R.cells at r3
  change ns ≤ R.slots at r4
  exact va_mabs (rest := st.map (mz_c ad ao ρ)) hex hb (hml.trans hls.1.symm) hown (hts _ hl) (hts _ hs) (hts _ hi) (hts _ hc) r1 (by omega) r3 r4 hd q
theorem mz_pick {ρ : Nat → Int32} {x y : Nat} {a b : Int32} {z : Bool} (h : z = true ↔ a < b) : mz_i ρ (bif z then y else x) = if a < b then mz_i ρ y else mz_i ρ x := by
  cases z with
  | true => rw [if_pos (h.mp rfl)]; rfl
  | false => rw [if_neg fun q => nomatch h.mpr q]; rfl
theorem mz_pickI {x y : Nat} {z : Bool} (hx : mz_I x = true) (hy : mz_I y = true) : mz_I (bif z then y else x) = true := by
  cases z
  · exact hx
  · exact hy
theorem mz_absI {a : Int32} {b : Bool} (h : b = true ↔ a < nI 0) : (if 0 ≤ a then a else 0 - a) = if b = true then -a else a := by
  have e : (0 ≤ a) ↔ ¬ a < nI 0 := by
    rw [show (nI 0 : Int32) = 0 from rfl]
    exact Int32.not_lt.symm
  by_cases q : a < nI 0
  · rw [if_neg (fun z => e.mp z q), if_pos (h.mpr q)]
    exact Int32.zero_sub a
  · rw [if_pos (e.mpr q), if_neg (fun z => q (h.mp z))]
end MZM
end
section
/-! WHAT IS CAUGHT: a row of a method's table: from, to, where its handler begins, the place of the class's name, which exception, the local that takes it, that instruction's length -/
abbrev mz_Hr : Type := Nat × Nat × Nat × Nat × Nat × Nat × Nat
noncomputable def mz_find {α : Type} (hs : List mz_Hr) (pc k : Nat) (f : Nat → Nat → Nat → Option α) : Option α :=
  List.rec (motive := fun _ => Option α) none (fun x _ ih => bif Nat.ble x.1 pc then bif Nat.ble (Nat.succ pc) x.2.1 then bif Nat.beq x.2.2.2.2.1 k then f x.2.2.1 x.2.2.2.2.2.1 x.2.2.2.2.2.2 else ih else ih else ih) hs
def mz_cov (x : mz_Hr) (pc : Nat) : Prop := x.1 ≤ pc ∧ pc < x.2.1
theorem mz_find_ok {α : Type} {pc k : Nat} {f : Nat → Nat → Nat → Option α} {r : α} : ∀ {hs : List mz_Hr}, mz_find hs pc k f = some r →
    ∃ (pre : List mz_Hr) (x : mz_Hr) (suf : List mz_Hr), hs = pre ++ x :: suf ∧ f x.2.2.1 x.2.2.2.2.2.1 x.2.2.2.2.2.2 = some r ∧ mz_cov x pc ∧ x.2.2.2.2.1 = k ∧ ∀ z ∈ pre, ¬ mz_cov z pc ∨ z.2.2.2.2.1 ≠ k
  | [], h => nomatch h
  | x :: t, h => by
    have ih : mz_find t pc k f = some r → (¬ mz_cov x pc ∨ x.2.2.2.2.1 ≠ k) → ∃ (pre : List mz_Hr) (y : mz_Hr) (suf : List mz_Hr), x :: t = pre ++ y :: suf ∧ f y.2.2.1 y.2.2.2.2.2.1 y.2.2.2.2.2.2 = some r ∧ mz_cov y pc ∧ y.2.2.2.2.1 = k ∧ ∀ z ∈ pre, ¬ mz_cov z pc ∨ z.2.2.2.2.1 ≠ k := fun q hn => by
      obtain ⟨pre, y, suf, h1, h2, h3, h4, h5⟩ := mz_find_ok q
      exact ⟨x :: pre, y, suf, by rw [h1]; rfl, h2, h3, h4, List.forall_mem_cons.mpr ⟨hn, h5⟩⟩
    rcases mz_if h with ⟨h1, h⟩ | ⟨h1, h⟩
    · rcases mz_if h with ⟨h2, h⟩ | ⟨h2, h⟩
      · rcases mz_if h with ⟨h3, h⟩ | ⟨h3, h⟩
        · exact ⟨[], x, t, rfl, h, ⟨mz_bl h1, mz_bl h2⟩, mz_bq h3, fun z hz => nomatch hz⟩
        · exact ih h (Or.inr (mz_bn h3))
      · exact ih h (Or.inl fun q => absurd (mz_bg h2) (by have := q.2; omega))
    · exact ih h (Or.inl fun q => absurd (mz_bg h1) (by have := q.1; omega))
def mz_hrow (own : String) (cc : ByteArray) (x : mz_Hr) : Prop := x.2.2.2.1 ≠ 0 ∧ ∃ nm : String, mz_xs[x.2.2.2.2.1]? = some nm ∧ Jvm.Cond.classLink own x.2.2.2.1 nm ∈ mz_gG ∧ Jvm.Cond.castable nm nm ∈ lw_tbl ∧
  ((x.2.2.2.2.2.2 = 1 ∧ ∃ j : Fin 4, j.val = x.2.2.2.2.2.1 ∧ decode cc x.2.2.1 = .ok (.astore_n j, 1)) ∨ (x.2.2.2.2.2.2 = 2 ∧ decode cc x.2.2.1 = .ok (.astore x.2.2.2.2.2.1, 2)))
def mz_hh (hs : List mz_Hr) : List (Nat × Nat × Nat × Nat) := hs.map fun x => (x.1, x.2.1, x.2.2.1, x.2.2.2.1)
theorem mz_xs_inj : ∀ a b : Nat, ∀ E : String, mz_xs[a]? = some E → mz_xs[b]? = some E → a = b := fun a b E h1 h2 => by
  have q : ∀ i : Fin 5, ∀ j : Fin 5, mz_xs[i.val]? = mz_xs[j.val]? → i = j := by decide +kernel
  have ha : a < 5 := (List.getElem?_eq_some_iff.mp h1).1
  have hb : b < 5 := (List.getElem?_eq_some_iff.mp h2).1
  exact congrArg Fin.val (q ⟨a, ha⟩ ⟨b, hb⟩ (h1.trans h2.symm))
section MZT
variable {X : mz_Xt} {cc : ByteArray} {own : String} {F : Nat → Nat × Nat} {pc L M K n top nc ns M0 K0 top0 : Nat} {st : List Nat} {ret : Option FieldType}
theorem mz_store0 {ad ao : Nat → Nat} {ρ : Nat → Int32} {nL i : Nat} {v : Value} {ls ls' : Array Slot} (h : mz_ls ad ao ρ n nL ls L) (h4 : mz_b4 L i = true)
    (h' : lv_has ls' nL ((i, v) :: (mz_lv ad ao ρ L nL).filter (fun q => !(q.1 == i) && !(q.1 + 1 == i && q.2.category == 2)))) : mz_ls ad ao ρ n nL ls' (mz_p L i 0) := by
  refine ⟨h'.1, h'.2.1, fun j hj => ?_, fun j => mz_gp_cl (by decide) (mz_cl_t (by decide)) h.2.2.2⟩
  rw [mz_gp (by decide)] at hj ⊢
  by_cases q : j = i
  · subst q
    rw [if_pos rfl] at hj
    cases hj
  · rw [if_neg q] at hj ⊢
    refine h'.2.2 (j, mz_c ad ao ρ (mz_g L j)) (List.mem_cons_of_mem _ (List.mem_filter.mpr ⟨mz_lv_in h hj, ?_⟩))
    have e1 : (j == i) = false := by simpa using q
    show (!(j == i) && !(j + 1 == i && (mz_c ad ao ρ (mz_g L j)).category == 2)) = true
    rw [e1]
    by_cases q2 : j + 1 = i
    · have := mz_c2_cat (ad := ad) (ao := ao) (ρ := ρ) (mz_b4_ok h4 q2)
      simp [this]
    · simp [q2]
theorem mz_catch {α : Type} {hs : List mz_Hr} {k : Nat} {r : mz_Rt} {f : Nat → Nat → Nat → Option α} {u : α} (C : mz_Cx X cc own mz_gG F) (O : mz_OX X) (E : mz_MX X ret true (mz_hh hs) M0 K0 top0 r) (hrow : ∀ x ∈ hs, mz_hrow own cc x) (hf : mz_find hs pc k f = some u)
    (hk : ∀ h j ln, f h j ln = some u → mz_b4 L j = true ∧ j < mz_nL X ∧ mz_G X (h + ln) (mz_p L j 0) [] M K n top nc ns) : mz_GX X pc L st M K n top nc ns k := by
  obtain ⟨pre, x, suf, hsp, hfx, hcov, hkx, hpre⟩ := mz_find_ok hf
  have hxm : x ∈ hs := by rw [hsp]; simp
  obtain ⟨g0, nm, g1, g2, g3, g4⟩ := hrow x hxm
  obtain ⟨p, l, e, R, s, m, args, below, meth, c, nL, D, cA, ao, ρ, A, n0, ad0, Q⟩ := X
  obtain ⟨hex, hb, hml, hown, hts, hK, hA, hFF, hV⟩ := C
  obtain ⟨-, -, -, -, e4, -, -⟩ := E
  intro ad ls H locs hn0 had hZ hls hst q ce En hE hq hcv hcl
  rw [hkx] at g1
  cases g1.symm.trans hE
  obtain ⟨b4, jn, kk⟩ := hk _ _ _ hfx
  change x.2.2.2.2.2.1 < nL at jn
  refine vx_catch (own := own) (name := nm) (E := nm) hown (tableOf (mz_hh pre)) ⟨x.1, x.2.1, x.2.2.1, x.2.2.2.1⟩ (tableOf (mz_hh suf)) (by rw [e4 rfl, hsp]; simp [tableOf, mz_hh]) (fun z hz => ?_) ?_ g0 (hts _ g2) (va_Nw.use rfl (O.2.2.2.2.2.1 _ g3 rfl)) hq hcv hcl ?_
  · obtain ⟨y, hy, rfl⟩ := List.mem_map.mp hz
    obtain ⟨z9, hz9, rfl⟩ := List.mem_map.mp hy
    obtain ⟨f0, nm2, f1, f2, f3, -⟩ := hrow z9 (by rw [hsp]; simp [hz9])
    rcases hpre z9 hz9 with w | w
    · refine Or.inl ?_
      show (decide (z9.1 ≤ pc) && decide (pc < z9.2.1)) = false
      cases h : (decide (z9.1 ≤ pc) && decide (pc < z9.2.1)) with
      | false => rfl
      | true =>
        simp only [Bool.and_eq_true, decide_eq_true_eq] at h
        exact absurd h w
    · refine Or.inr ⟨f0, nm2, hts _ f2, O.2.2.2.2.2.2.2.2.2 _ (List.mem_of_getElem? g1) _ (List.mem_of_getElem? f1) fun h => w ?_⟩
      rw [← h] at f1
      exact mz_xs_inj _ _ _ f1 g1
  · show (decide (x.1 ≤ pc) && decide (pc < x.2.1)) = true
    simp only [Bool.and_eq_true, decide_eq_true_eq]
    exact hcov
  · rcases g4 with ⟨l1, j, hj, d1⟩ | ⟨l2, d1⟩
    · refine lv_astore_n hex hb d1 hj (mz_lv_has hls) jn rfl fun ls' h' => ?_
      rw [l1] at kk
      exact kk ad ls' H locs hn0 had hZ (mz_store0 hls b4 h') (fun v hv => nomatch hv)
    · refine lv_astore hex hb d1 (mz_lv_has hls) jn rfl fun ls' h' => ?_
      rw [l2] at kk
      exact kk ad ls' H locs hn0 had hZ (mz_store0 hls b4 h') (fun v hv => nomatch hv)
end MZT
end
section
/-! A BODY: from its walk to its contract -/
/-- words that may be handed to a method: no references to what isn't there, none of two places -/
def mz_ak (n w : Nat) : Bool := bif mz_cl n w then bif mz_c2 w then false else Nat.ble (Nat.succ w) 281474976710656 else false
noncomputable def mz_aks (n : Nat) (ws : List Nat) : Bool := List.rec (motive := fun _ => Bool) true (fun w _ ih => bif mz_ak n w then ih else false) ws
theorem mz_ak_ok {n w : Nat} (h : mz_ak n w = true) : mz_cl n w = true ∧ mz_c2 w = false ∧ w < mz_B := by
  unfold mz_ak at h
  cases h1 : mz_cl n w with
  | false => rw [h1] at h; cases h
  | true =>
    cases h2 : mz_c2 w with
    | true => rw [h1, h2] at h; cases h
    | false =>
      rw [h1, h2] at h
      exact ⟨rfl, rfl, mz_bl h⟩
theorem mz_aks_ok {n : Nat} : ∀ {ws : List Nat}, mz_aks n ws = true → ∀ w ∈ ws, mz_ak n w = true
  | [], _ => fun w h => nomatch h
  | w :: t, h => by
    have h' : (bif mz_ak n w then mz_aks n t else false) = true := h
    cases h1 : mz_ak n w with
    | false => rw [h1] at h'; cases h'
    | true =>
      rw [h1] at h'
      exact List.forall_mem_cons.mpr ⟨h1, mz_aks_ok h'⟩
theorem mz_sl_len : ∀ vs : List Value, (∀ v ∈ vs, v.category = 1) → (lg_sl vs).length = vs.length
  | [], _ => rfl
  | v :: t, h => by
    have h1 := h v List.mem_cons_self
    have h2 := mz_sl_len t fun w hw => h w (List.mem_cons_of_mem _ hw)
    have e : lg_sl (v :: t) = Slot.val v :: lg_sl t := by
      unfold lg_sl
      rw [List.flatMap_cons, if_neg (by rw [h1]; decide)]
      rfl
    rw [e, List.length_cons, List.length_cons, h2]
theorem mz_args_at : ∀ (vs : List Value) (i j : Nat) (v : Value), (∀ v ∈ vs, v.category = 1) → vs[j]? = some v → (i + j, v) ∈ lv_args i vs
  | [], i, j, v, _, h => by simp at h
  | u :: t, i, 0, v, hc, h => by
    cases (show some u = some v from h)
    exact List.mem_cons_self
  | u :: t, i, j + 1, v, hc, h => by
    have h1 := hc u List.mem_cons_self
    have q := mz_args_at t (i + 1) j v (fun w hw => hc w (List.mem_cons_of_mem _ hw)) (by simpa using h)
    unfold lv_args
    rw [if_neg (by rw [h1]; decide), show i + (j + 1) = i + 1 + j by omega]
    exact List.mem_cons_of_mem _ q
theorem mz_entry {ad ao : Nat → Nat} {ρ : Nat → Int32} {n nL : Nat} {ws : List Nat} (hk : mz_aks n ws = true) (hl : ws.length ≤ nL) :
    mz_ls ad ao ρ n nL ((lg_sl (ws.map (mz_c ad ao ρ)) ++ List.replicate (nL - (lg_sl (ws.map (mz_c ad ao ρ))).length) Slot.unset).toArray) (mz_fl ws 0 0) := by
  have hA := mz_aks_ok hk
  have hcat : ∀ v ∈ ws.map (mz_c ad ao ρ), v.category = 1 := fun v hv => by
    obtain ⟨w, hw, rfl⟩ := List.mem_map.mp hv
    exact mz_cat1 (mz_ak_ok (hA w hw)).2.1
  have hlen := mz_sl_len _ hcat
  rw [List.length_map] at hlen
  have h := lv_entry (ws.map (mz_c ad ao ρ)) (n := nL) (by rw [hlen]; exact hl)
  have hg : ∀ i, mz_g (mz_fl ws 0 0) i = if i < ws.length then ws.getD i 0 else 0 := fun i => by
    rw [mz_fl_g _ _ _ _ fun w hw => (mz_ak_ok (hA w hw)).2.2]
    have z : mz_g 0 i = 0 := by
      rw [mz_g_eq]; unfold mz_d; simp
    rw [z, Nat.sub_zero, Nat.zero_add]
    by_cases q : i < ws.length
    · rw [if_pos ⟨Nat.zero_le _, q⟩, if_pos q]
    · rw [if_neg fun z => q z.2, if_neg q]
  refine ⟨h.1, h.2.1, fun i hi => ?_, fun i => ?_⟩
  · rw [hg] at hi ⊢
    by_cases q : i < ws.length
    · rw [if_pos q]
      have e : ws[i]? = some (ws.getD i 0) := by
        rw [List.getD_eq_getElem?_getD, List.getElem?_eq_getElem q]; rfl
      have m1 := mz_args_at (ws.map (mz_c ad ao ρ)) 0 i (mz_c ad ao ρ (ws.getD i 0)) hcat (by rw [List.getElem?_map, e]; rfl)
      rw [Nat.zero_add] at m1
      exact h.2.2 _ m1
    · rw [if_neg q] at hi
      cases hi
  · rw [hg]
    by_cases q : i < ws.length
    · rw [if_pos q]
      refine (mz_ak_ok (hA _ ?_)).1
      rw [List.getD_eq_getElem?_getD, List.getElem?_eq_getElem q]
      exact List.getElem_mem q
    · rw [if_neg q]
      exact mz_cl_t (by decide)
theorem mz_body {l : Launch} {ρ : Nat → Int32} {F : Nat → Nat × Nat} {y : MethodName} {cc : ByteArray} {maxL : Nat} {ret : Option FieldType} {tb : Bool} {hh : List (Nat × Nat × Nat × Nat)} {d : Nat} {ws : List Nat} {M K n top : Nat} {r : mz_Rt} (hF : mz_F F ρ) (hV : mz_V ρ) (hl : l.stackTraces = false)
    (hy : plainName y.cls = true) (hk : mz_aks n ws = true) (hlen : ws.length ≤ maxL)
    (hrun : ∀ X : mz_Xt, mz_Cx X cc y.cls mz_gG F → mz_OX X → mz_MX X ret tb hh M K top r → mz_rm X = mz_rr d r.2.2.2.2.2.2.1 r.2.2.2.2.2.2.2 → mz_nL X = maxL → mz_rho X = ρ → mz_lz X = l → mz_mn X = y.name → mz_G X 0 (mz_fl ws 0 0) [] M K n top 0 0) :
    mz_Sp l ρ (y, cc, maxL, ret, tb, hh) d ws M K n top r := by
  intro D cA ad ao sz
  have body : ∀ p e s m args below meth c s₁, BodyLoose p l y (headSpec (mz_ws (y, cc, maxL, ret, tb, hh)) (mz_rr d r.2.2.2.2.2.2.1 r.2.2.2.2.2.2.2)) cc maxL ret e s m args below meth c s₁ → c.maxLocals = maxL → (tb = false → ∀ x ∈ c.exceptionTable.toList, False) → (tb = true → c.exceptionTable.toList = tableOf hh) →
      va_Pc (ws.map (mz_c ad ao ρ)) (mz_B0 (D, cA, ad, ao, ρ, M, K, n, top, sz)) args s →
      W p l e (headSpec (mz_ws (y, cc, maxL, ret, tb, hh)) (mz_rr d r.2.2.2.2.2.2.1 r.2.2.2.2.2.2.2)).room s m args below meth c s.heap [] 0 0 (vx_MQ below (mz_Qc (D, cA, ad, ao, ρ, M, K, n, top, sz) r) (mz_XC (D, cA, ad, ao, ρ, M, K, n, top, sz) r) args s r.2.2.2.2.2.2.1 r.2.2.2.2.2.2.2 (mz_Av (D, cA, ad, ao, ρ, M, K, n, top, sz))) (entryFrame m args maxL) := by
    intro p e s m args below meth c s₁ B hml ht1 ht2 ⟨hv, h1, h2, h3, h4, h5, h6, h7⟩
    subst hv
    subst h1
    have hts : ∀ w ∈ mz_gG, w.before (ws.map (mz_c ad ao ρ)).toArray s = true := fun w hw => atoms_spec (ws := mz_ws (y, cc, maxL, ret, tb, hh)) B.pre w (List.mem_cons_of_mem _ hw)
    have q := hrun (p, l, e, (headSpec (mz_ws (y, cc, maxL, ret, tb, hh)) (mz_rr d r.2.2.2.2.2.2.1 r.2.2.2.2.2.2.2)).room, s, m, (ws.map (mz_c ad ao ρ)).toArray, below, meth, c, maxL, D, cA, ao, ρ, mz_Av (D, cA, ad, ao, ρ, M, K, n, top, s.heap.size), n, ad, _)
      ⟨B.exec, B.bytes, hml, findClass_of_methodNamed B.named, hts, h4, fun q hq => Or.inr hq, hF, hV⟩ h5 ⟨B.returns, B.notSynchronized, hl, ht1, ht2, rfl, rfl⟩ rfl rfl rfl rfl (name_of_methodNamed B.named B.method).1
      ad _ s.heap [] (Nat.le_refl _) (fun _ _ => rfl) ⟨h2, h3, ⟨Nat.le_refl _, fun _ _ _ => rfl, fun _ h => nomatch h⟩, h6, h7⟩ (mz_entry hk hlen) (fun w h => nomatch h)
    rw [lg_entry_eq]
    exact q
  cases tb with
  | false => exact vx_ofW (cc := cc) (maxL := maxL) (ret := ret) (ws' := mz_gG) hy rfl fun p e s m args below meth c s₁ B hml ht hP => body p e s m args below meth c s₁ B hml (fun _ => ht) (fun h => nomatch h) hP
  | true => exact vx_ofWH (cc := cc) (maxL := maxL) (ret := ret) (hh := hh) (ws' := mz_gG) hy rfl fun p e s m args below meth c s₁ B hml hP => body p e s m args below meth c s₁ B hml (fun h => nomatch h) (fun _ => vx_table (x := y) B (atoms_spec (ws := mz_ws (y, cc, maxL, ret, true, hh)) B.pre _ List.mem_cons_self)) hP
end
section
/-! THE STEPS: an instruction is a number: 8 bits its kind, 16 bits x, 20 bits y, 28 bits z (or, of constants, 32 bits behind x) -/
abbrev mz_Ca : Type := Nat → List Nat → Nat → Nat → Nat → Nat → Option mz_Rt
abbrev mz_Go : Type := Nat → Nat → List Nat → Nat → Nat → Nat → Nat → Nat → Nat → Option mz_Rt
abbrev mz_Se : Type := (Nat → Nat × Nat) → Nat → Nat → List mz_Hr → mz_Ca → mz_Go → Nat → Nat → Nat → List Nat → Nat → Nat → Nat → Nat → Nat → Nat → Option mz_Rt
abbrev mz_Ck : Type := String → String → ByteArray → Nat → Option FieldType → Nat → Nat → Bool
def mz_ex (e : Nat) : Nat := Nat.mod (Nat.shiftRight e 8) 65536
def mz_ey (e : Nat) : Nat := Nat.mod (Nat.shiftRight e 24) 1048576
def mz_ez (e : Nat) : Nat := Nat.shiftRight e 44
def mz_ea (e : Nat) : Nat := Nat.mod (Nat.shiftRight e 24) 4294967296
def mz_j (e : Nat) : Fin 4 := ⟨Nat.mod (mz_ex e) 4, Nat.mod_lt _ (by decide)⟩
def mz_z (a : Nat) : Int := if a < 2147483648 then (a : Int) else (a : Int) - 4294967296
def mz_wf (w : Nat) : Bool := Nat.ble (Nat.succ w) 281474976710656
theorem mz_wf_ok {w : Nat} (h : mz_wf w = true) : w < mz_B := mz_bl h
noncomputable def mz_p1 {α : Type} (st : List Nat) (k : Nat → List Nat → Option α) : Option α := List.rec (motive := fun _ => Option α) none (fun w l _ => k w l) st
theorem mz_p1_ok {α : Type} {st : List Nat} {k : Nat → List Nat → Option α} {r : α} (h : mz_p1 st k = some r) : ∃ w l, st = w :: l ∧ k w l = some r := by
  cases st with
  | nil => cases h
  | cons w l => exact ⟨w, l, rfl, h⟩
/-- so many words off the stack, the deepest first -/
noncomputable def mz_tk {α : Type} (na : Nat) (k : List Nat → List Nat → Option α) : List Nat → List Nat → Option α :=
  Nat.rec (motive := fun _ => List Nat → List Nat → Option α) (fun st acc => k acc st) (fun _ ih st acc => mz_p1 st fun w l => ih l (w :: acc)) na
theorem mz_tk_ok {α : Type} {k : List Nat → List Nat → Option α} {r : α} : ∀ (na : Nat) (st acc : List Nat), mz_tk na k st acc = some r → ∃ as rest, as.length = na ∧ st = as.reverse ++ rest ∧ k (as ++ acc) rest = some r
  | 0, st, acc, h => ⟨[], st, rfl, rfl, h⟩
  | na + 1, st, acc, h => by
    obtain ⟨w, l, rfl, h⟩ := mz_p1_ok (show mz_p1 st (fun w l => mz_tk na k l (w :: acc)) = some r from h)
    obtain ⟨as, rest, h1, rfl, h3⟩ := mz_tk_ok na l (w :: acc) h
    exact ⟨as ++ [w], rest, by simp [h1], by simp, by simpa using h3⟩
noncomputable def mz_len (st : List Nat) : Nat := List.rec (motive := fun _ => Nat) 0 (fun _ _ ih => Nat.succ ih) st
noncomputable def mz_l4 (st : List Nat) : Bool := Nat.ble (mz_len st) 4
theorem mz_len_eq : ∀ st : List Nat, mz_len st = st.length
  | [] => rfl
  | _ :: l => congrArg Nat.succ (mz_len_eq l)
theorem mz_l4_ok {st : List Nat} (h : mz_l4 st = true) : st.length ≤ 4 := by
  have := mz_bl (show Nat.ble (mz_len st) 4 = true from h)
  rwa [mz_len_eq] at this
/-- a walk from here comes to its end, with the room that the end's account says -/
def mz_Ok (X : mz_Xt) (r : mz_Rt) (pc L : Nat) (st : List Nat) (M K n top nc ns : Nat) : Prop := nc ≤ r.2.2.2.2.2.2.1 ∧ ns ≤ r.2.2.2.2.2.2.2 ∧ mz_G X pc L st M K n top nc ns
/-- the law's own context: its script, its end -/
def mz_LX : mz_Xt → ByteArray → mz_Rt → Nat → Prop
  | (p, l, e, R, s, m, args, below, meth, c, nL, D, cA, ao, ρ, A, n0, ad0, Q), cc, r, Ls => (va_X (ao 99) Ls ρ s s.heap ∧ ao 99 < s.heap.size ∧ ¬ A (ao 99)) ∧
    ∀ pc L M K n top nc ns w, decode cc pc = .ok (.ireturn, 1) → r = (0, some w, M, K, n, top, nc, ns) → mz_I w = true → mz_G (p, l, e, R, s, m, args, below, meth, c, nL, D, cA, ao, ρ, A, n0, ad0, Q) pc L [w] M K n top nc ns
/-- contexts: 0 a method without a table, 1 one with a table, 2 the law on a script of Ls ints (said as mo = 2 + Ls) -/
def mz_CX (X : mz_Xt) (cc : ByteArray) (own : String) (mo : Nat) (hs : List mz_Hr) (ret : Option FieldType) (r : mz_Rt) : Prop :=
  (mo = 0 → ∃ M0 K0 top0, mz_MX X ret false (mz_hh hs) M0 K0 top0 r) ∧ (mo = 1 → (∃ M0 K0 top0, mz_MX X ret true (mz_hh hs) M0 K0 top0 r) ∧ ∀ x ∈ hs, mz_hrow own cc x) ∧ (∀ Ls, mo = 2 + Ls → mz_LX X cc r Ls)
/-- the methods, by their numbers; how many words a call takes; how it is called -/
abbrev mz_Mk : Type := Nat → mz_Mt × Nat × Nat
def mz_cal (t : mz_Mt) (na kd : Nat) : Prop := mz_cw t ∈ mz_gG ∧ Jvm.Cond.initialized t.1.cls ∈ mz_gG ∧ mz_nh t.1 ∧ mz_na t.1 na ∧ t.2.2.1 ≤ 40 ∧ (kd = 0 → Jvm.Cond.static t.1 ∈ mz_gG) ∧
  (kd = 1 → t.2.2.2.2.1 = false ∧ Jvm.Cond.instanceMethod t.1 ∈ mz_gG ∧ Jvm.Cond.selects t.1.cls t.1 t.1 ∈ mz_gG) ∧ (kd = 2 → t.2.2.2.2.1 = false ∧ Jvm.Cond.instanceMethod t.1 ∈ mz_gG ∧ t.1.name = "<init>" ∧ t.2.2.2.1 = none) ∧
  (kd = 3 → t.2.2.2.2.1 = false ∧ Jvm.Cond.instanceMethod t.1 ∈ mz_gG ∧ t.1 = ⟨mz_itr, "hasNext", "()Z"⟩ ∧ Jvm.Cond.selects mz_itr mz_hasN t.1 ∈ mz_gG ∧ mz_na mz_hasN na) ∧
  (kd = 4 → t.2.2.2.2.1 = false ∧ Jvm.Cond.instanceMethod t.1 ∈ mz_gG ∧ t.1 = ⟨mz_itr, "next", "()Ljava/lang/Object;"⟩ ∧ Jvm.Cond.selects mz_itr mz_nextN t.1 ∈ mz_gG ∧ mz_na mz_nextN na)
def mz_HC (X : mz_Xt) (mk : mz_Mk) (d : Nat) (call : mz_Ca) : Prop := ∀ mi ws M K n top r1, call mi ws M K n top = some r1 → mz_Sp (mz_lz X) (mz_rho X) (mk mi).1 d ws M K n top r1 ∧ mz_cal (mk mi).1 (mk mi).2.1 (mk mi).2.2
def mz_HG (X : mz_Xt) (r : mz_Rt) (go : mz_Go) : Prop := ∀ pc L st M K n top nc ns, go pc L st M K n top nc ns = some r → mz_Ok X r pc L st M K n top nc ns
abbrev mz_Cy (X : mz_Xt) (mk : mz_Mk) (cc : ByteArray) (own : String) (F : Nat → Nat × Nat) (nL mo d : Nat) (hs : List mz_Hr) (ret : Option FieldType) (r : mz_Rt) (call : mz_Ca) (go : mz_Go) : Prop :=
  mz_Cx X cc own mz_gG F ∧ mz_OX X ∧ mz_nL X = nL ∧ (r.2.2.2.2.2.2.1 ≤ (mz_rm X).cells ∧ r.2.2.2.2.2.2.2 ≤ (mz_rm X).slots) ∧ (d + 9 ≤ (mz_rm X).frames ∧ 60 * d + 260 ≤ (mz_rm X).locals) ∧ mz_CX X cc own mo hs ret r ∧ mz_HC X mk d call ∧ mz_HG X r go
/-- a step and what is asked of the tables for it -/
def mz_Lk (mk : mz_Mk) (f : mz_Se) (k : mz_Ck) : Prop := ∀ (X : mz_Xt) (own : String) (cc : ByteArray) (F : Nat → Nat × Nat) (nL mo d : Nat) (hs : List mz_Hr) (ret : Option FieldType) (r : mz_Rt) (call : mz_Ca) (go : mz_Go) (e pc L : Nat) (st : List Nat) (M K n top nc ns : Nat),
  mz_Cy X mk cc own F nL mo d hs ret r call go → k own (mz_mn X) cc mo ret e pc = true → f F nL mo hs call go e pc L st M K n top nc ns = some r → mz_Ok X r pc L st M K n top nc ns
/-- a tree of choices by number -/
def mz_nd {α : Type} (k : Nat) (a b : Nat → α) : Nat → α := fun op => bif Nat.ble op k then a op else b op
def mz_lf {α : Type} (a : α) : Nat → α := fun _ => a
theorem mz_nd_ok {α β : Type} {P : α → β → Prop} {k : Nat} {a b : Nat → α} {a' b' : Nat → β} (h1 : ∀ op, P (a op) (a' op)) (h2 : ∀ op, P (b op) (b' op)) : ∀ op, P (mz_nd k a b op) (mz_nd k a' b' op) := fun op => by
  unfold mz_nd
  cases Nat.ble op k
  · exact h2 op
  · exact h1 op
theorem mz_lf_ok {α β : Type} {P : α → β → Prop} {a : α} {a' : β} (h : P a a') : ∀ op : Nat, P (mz_lf a op) (mz_lf a' op) := fun _ => h
theorem mz_bfg {X : mz_Xt} {cc : ByteArray} {own : String} {F : Nat → Nat × Nat} (C : mz_Cx X cc own mz_gG F) {w : Jvm.Cond} (h : w ∈ mz_gG) : mz_bf X w := by
  obtain ⟨p, l, e, R, s, m, args, below, meth, c, nL, D, cA, ao, ρ, A, n0, ad0, Q⟩ := X
  exact C.2.2.2.2.1 w h
theorem mz_bfn {X : mz_Xt} (O : mz_OX X) {w : Jvm.Cond} (h : w ∈ lw_tbl) (h2 : mz_nk w = true) : mz_bf X w := by
  obtain ⟨p, l, e, R, s, m, args, below, meth, c, nL, D, cA, ao, ρ, A, n0, ad0, Q⟩ := X
  refine va_Nw.use ?_ (O.2.2.2.2.2.1 w h h2)
  cases w <;> first | rfl | cases h2
theorem mz_bfa {X : mz_Xt} (O : mz_OX X) {C0 : String} (h : Jvm.Cond.arrayOver (.object C0) ∈ lw_tbl) : mz_bf X (Jvm.Cond.arrayOver (.object C0)) := by
  obtain ⟨p, l, e, R, s, m, args, below, meth, c, nL, D, cA, ao, ρ, A, n0, ad0, Q⟩ := X
  exact (O.2.2.2.2.2.2.1 C0 h).use
/-- the word at that place of the tables, a good one -/
abbrev mz_wi (i : Nat) (w : Jvm.Cond) : Prop := lw_tbl[i]? = some w ∧ goodWord w = true
theorem mz_wi_ok {i : Nat} {w : Jvm.Cond} (h : mz_wi i w) : w ∈ mz_gG := List.mem_filter.mpr ⟨List.mem_of_getElem? h.1, h.2⟩
theorem mz_bft {a b : Bool} (h : (bif a then b else false) = true) : a = true ∧ b = true := by
  cases a
  · cases h
  · exact ⟨rfl, h⟩
theorem mz_elim {α : Type} {o : Option α} {f : α → Bool} (h : o.elim false f = true) : ∃ q, o = some q ∧ f q = true := by
  cases o with
  | none => cases h
  | some q => exact ⟨q, rfl, h⟩
noncomputable def mz_bd {α β : Type} (o : Option α) (f : α → Option β) : Option β := Option.rec (motive := fun _ => Option β) none f o
theorem mz_bd_ok {α β : Type} {o : Option α} {f : α → Option β} {r : β} (h : mz_bd o f = some r) : ∃ x, o = some x ∧ f x = some r := by
  cases o with
  | none => cases h
  | some x => exact ⟨x, rfl, h⟩
theorem mz_iff {α : Type} {c : Bool} {a : Option α} {r : α} (h : (bif c then none else a) = some r) : c = false ∧ a = some r := by
  cases c
  · exact ⟨rfl, h⟩
  · cases h
theorem mz_off (a b : Nat) : (b : Int) + (Int.ofNat a - Int.ofNat b) = (a : Int) := by
  show (b : Int) + ((a : Int) - (b : Int)) = (a : Int)
  omega
theorem mz_CF {X : mz_Xt} {cc : ByteArray} {own : String} {Ts : List Jvm.Cond} {F : Nat → Nat × Nat} (C : mz_Cx X cc own Ts F) : mz_F F (mz_rho X) := by
  obtain ⟨p, l, e, R, s, m, args, below, meth, c, nL, D, cA, ao, ρ, A, n0, ad0, Q⟩ := X
  exact C.2.2.2.2.2.2.2.1
theorem mz_CV {X : mz_Xt} {cc : ByteArray} {own : String} {Ts : List Jvm.Cond} {F : Nat → Nat × Nat} (C : mz_Cx X cc own Ts F) : mz_V (mz_rho X) := by
  obtain ⟨p, l, e, R, s, m, args, below, meth, c, nL, D, cA, ao, ρ, A, n0, ad0, Q⟩ := X
  exact C.2.2.2.2.2.2.2.2
theorem mz_31 (ρ : Nat → Int32) {y : Nat} (h : mz_sm y = true) (h2 : mz_q y < 32) : mz_i ρ y &&& 31 = mz_i ρ y := by
  rw [(mz_s1 (ρ := ρ) (mz_sm_ok h).1).2]
  exact mz_and31 ⟨mz_q y, h2⟩
theorem mz_ifB {c a b : Bool} (h : (bif c then a else b) = true) : (c = true ∧ a = true) ∨ (c = false ∧ b = true) := by
  cases c
  · exact Or.inr ⟨rfl, h⟩
  · exact Or.inl ⟨rfl, h⟩
/-- what a field of that kind takes -/
def mz_fk (kind v : Nat) : Bool := bif Nat.beq kind 0 then mz_I v else bif Nat.beq kind 1 then mz_L v else bif Nat.beq kind 2 then mz_fit .boolean v else bif Nat.beq kind 3 then mz_fit .char v else mz_R v
def mz_fkt (kind : Nat) (ty : FieldType) : Bool := match ty with
  | .int => Nat.beq kind 0
  | .long => Nat.beq kind 1
  | .boolean => Nat.beq kind 2
  | .char => Nat.beq kind 3
  | .object _ => Nat.ble 4 kind
  | .array _ => Nat.ble 4 kind
  | _ => false
theorem mz_fk_ok {kind v : Nat} {ty : FieldType} (h : mz_fkt kind ty = true) (h2 : mz_fk kind v = true) : mz_fit ty v = true := by
  have g : ∀ k, kind = k + 4 → mz_fk kind v = mz_R v := fun k hk => by subst hk; rfl
  cases ty with
  | int => rw [mz_bq h] at h2; exact h2
  | long => rw [mz_bq h] at h2; exact h2
  | boolean => rw [mz_bq h] at h2; exact h2
  | char => rw [mz_bq h] at h2; exact h2
  | object n =>
    have h1 := mz_bl h
    rw [g (kind - 4) (by omega)] at h2
    exact h2
  | array t =>
    have h1 := mz_bl h
    rw [g (kind - 4) (by omega)] at h2
    exact h2
  | _ => cases h
/-- the number of the text, of a reference to it; of one to its bytes -/
noncomputable def mz_sj {α : Type} (x : Nat) (k : Nat → Option α) : Option α := mz_f (Nat.div (Nat.sub (Nat.sub (mz_q x) 1048577) 1) 2) fun j => bif Nat.beq x (mz_ow (Nat.add 1 (Nat.mul 2 j))) then bif Nat.ble (Nat.succ j) 4 then k j else none else none
noncomputable def mz_bj {α : Type} (x : Nat) (k : Nat → Option α) : Option α := mz_f (Nat.div (Nat.sub (Nat.sub (mz_q x) 1048577) 2) 2) fun j => bif Nat.beq x (mz_ow (Nat.add 2 (Nat.mul 2 j))) then bif Nat.ble (Nat.succ j) 4 then k j else none else none
theorem mz_str_at {j : Nat} (h : j < 4) : ∃ q, mz_strs[j]? = some q := ⟨_, List.getElem?_eq_getElem (show j < mz_strs.length from h)⟩
theorem mz_sj_ok {α : Type} {x : Nat} {k : Nat → Option α} {r : α} (h : mz_sj x k = some r) : ∃ j q, x = mz_ow (1 + 2 * j) ∧ mz_strs[j]? = some q ∧ k j = some r := by
  unfold mz_sj at h
  rw [mz_f_eq] at h
  obtain ⟨h1, h⟩ := mz_ift h
  obtain ⟨h2, h⟩ := mz_ift h
  obtain ⟨q, hq⟩ := mz_str_at (mz_bl h2)
  exact ⟨_, q, mz_bq h1, hq, h⟩
theorem mz_bj_ok {α : Type} {x : Nat} {k : Nat → Option α} {r : α} (h : mz_bj x k = some r) : ∃ j q, x = mz_ow (2 + 2 * j) ∧ mz_strs[j]? = some q ∧ k j = some r := by
  unfold mz_bj at h
  rw [mz_f_eq] at h
  obtain ⟨h1, h⟩ := mz_ift h
  obtain ⟨h2, h⟩ := mz_ift h
  obtain ⟨q, hq⟩ := mz_str_at (mz_bl h2)
  exact ⟨_, q, mz_bq h1, hq, h⟩
def mz_sbs : List (List Nat) := [[114, 104, 115, 102, 119], [114, 104, 115, 102, 119], [105, 115, 114, 116], [104, 115, 102]]
theorem mz_sbs_ok {j : Nat} {q : String × Nat × String × List Int32} (h : mz_strs[j]? = some q) : q.2.2.2.length = (mz_sbs.getD j []).length ∧ ∀ i, q.2.2.2.getD i 0 = nI ((mz_sbs.getD j []).getD i 0) := by
  have e : ∀ i : Fin 4, ∀ z, mz_strs[i.val]? = some z → z.2.2.2 = (mz_sbs.getD i.val []).map nI := fun i => by
    match i with
    | ⟨0, _⟩ => intro z hz; cases hz; rfl
    | ⟨1, _⟩ => intro z hz; cases hz; rfl
    | ⟨2, _⟩ => intro z hz; cases hz; rfl
    | ⟨3, _⟩ => intro z hz; cases hz; rfl
    | ⟨k + 4, hk⟩ => exact absurd hk (by omega)
  have hj : j < 4 := (List.getElem?_eq_some_iff.mp h).1
  rw [e ⟨j, hj⟩ q h]
  refine ⟨by simp, fun i => ?_⟩
  show ((mz_sbs.getD j []).map nI).getD i 0 = nI ((mz_sbs.getD j []).getD i 0)
  generalize mz_sbs.getD j [] = l
  rw [List.getD_eq_getElem?_getD, List.getD_eq_getElem?_getD, List.getElem?_map]
  cases l[i]? <;> rfl
noncomputable def mz_rp (N w : Nat) : List Nat := Nat.rec (motive := fun _ => List Nat) [] (fun _ ih => w :: ih) N
theorem mz_rp_eq : ∀ N w : Nat, mz_rp N w = List.replicate N w
  | 0, _ => rfl
  | N + 1, w => congrArg (List.cons w) (mz_rp_eq N w)
def mz_tn (t : Nat) : String := bif Nat.beq t 5 then "Hundredward$Plot" else bif Nat.beq t 6 then "Hundredward$Household" else bif Nat.beq t 7 then "Hundredward$Firm" else "java/lang/Object"
theorem mz_tn_ok {t : Nat} (h1 : 5 ≤ t) (h2 : t < 9) : mz_ty.getD t .int = .object (mz_tn t) := by
  obtain h | h | h | h : t = 5 ∨ t = 6 ∨ t = 7 ∨ t = 8 := by omega
  all_goals subst h; rfl
noncomputable def mz_pk (ts : List Nat) (d : Nat) : Nat → Nat := List.rec (motive := fun _ => Nat → Nat) (fun _ => d) (fun t _ ih i => Nat.rec (motive := fun _ => Nat) t (fun i' _ => ih i') i) ts
theorem mz_pk_in : ∀ (ts : List Nat) (d i : Nat), i < ts.length → ts[i]? = some (mz_pk ts d i)
  | [], d, i, h => absurd h (Nat.not_lt_zero _)
  | t :: l, d, 0, h => rfl
  | t :: l, d, i + 1, h => by
    rw [List.getElem?_cons_succ]
    exact mz_pk_in l d i (by simpa using h)
theorem mz_pk_out : ∀ (ts : List Nat) (d i : Nat), ts.length ≤ i → mz_pk ts d i = d
  | [], d, i, h => rfl
  | t :: l, d, 0, h => absurd h (by simp)
  | t :: l, d, i + 1, h => mz_pk_out l d i (by simpa using h)
/-- behind a call -/
noncomputable def mz_aft (hs : List mz_Hr) (mo nL : Nat) (go : mz_Go) (ln pc L : Nat) (rest : List Nat) (nc ns : Nat) (r1 : mz_Rt) : Option mz_Rt :=
  mz_f r1.2.2.1 fun M => mz_f r1.2.2.2.1 fun K => mz_f r1.2.2.2.2.1 fun n => mz_f r1.2.2.2.2.2.1 fun top => mz_f (Nat.add nc r1.2.2.2.2.2.2.1) fun nc => mz_f (Nat.add ns r1.2.2.2.2.2.2.2) fun ns =>
    Nat.rec (motive := fun _ => Option mz_Rt) (Option.rec (motive := fun _ => Option mz_Rt) (go (Nat.add pc ln) L rest M K n top nc ns) (fun w => go (Nat.add pc ln) L (w :: rest) M K n top nc ns) r1.2.1)
      (fun k _ => bif Nat.beq mo 0 then mz_f (Nat.succ k) fun k1 => some (k1, none, M, K, n, top, nc, ns) else bif Nat.beq mo 1 then mz_find hs pc k fun h j l => bif mz_b4 L j then bif Nat.ble (Nat.succ j) nL then mz_f (mz_p L j 0) fun L2 => go (Nat.add h l) L2 [] M K n top nc ns else none else none else none) r1.1
theorem mz_aft_ok {X : mz_Xt} {mk : mz_Mk} {cc : ByteArray} {own : String} {F : Nat → Nat × Nat} {nL mo d : Nat} {hs : List mz_Hr} {ret : Option FieldType} {r : mz_Rt} {call : mz_Ca} {go : mz_Go} (hy : mz_Cy X mk cc own F nL mo d hs ret r call go) {ln pc L nc ns rx : Nat} {rest : List Nat} {rv : Option Nat} {M K n top c1 s1 : Nat}
    (h : mz_aft hs mo nL go ln pc L rest nc ns (rx, rv, M, K, n, top, c1, s1) = some r) : (nc + c1 ≤ r.2.2.2.2.2.2.1 ∧ ns + s1 ≤ r.2.2.2.2.2.2.2) ∧ (rx = 0 → mz_G X (pc + ln) L (rv.toList ++ rest) M K n top (nc + c1) (ns + s1)) ∧ ∀ k, rx = k + 1 → mz_GX X pc L rest M K n top (nc + c1) (ns + s1) k := by
  obtain ⟨C, O, hnL, hR, hD, hE, hC, hG⟩ := hy
  unfold mz_aft at h
  rw [mz_f_eq, mz_f_eq, mz_f_eq, mz_f_eq, mz_f_eq, mz_f_eq] at h
  cases rx with
  | zero =>
    cases rv with
    | none =>
      obtain ⟨g1, g2, g3⟩ := hG _ _ _ _ _ _ _ _ _ (show go (Nat.add pc ln) L rest M K n top (Nat.add nc c1) (Nat.add ns s1) = some r from h)
      exact ⟨⟨g1, g2⟩, fun _ => g3, fun k hk => nomatch hk⟩
    | some w =>
      obtain ⟨g1, g2, g3⟩ := hG _ _ _ _ _ _ _ _ _ (show go (Nat.add pc ln) L (w :: rest) M K n top (Nat.add nc c1) (Nat.add ns s1) = some r from h)
      exact ⟨⟨g1, g2⟩, fun _ => g3, fun k hk => nomatch hk⟩
  | succ k =>
    rcases mz_if h with ⟨h0, h⟩ | ⟨-, h⟩
    · rw [mz_f_eq] at h
      cases h
      obtain ⟨M0, K0, top0, E⟩ := hE.1 (mz_bq h0)
      refine ⟨⟨Nat.le_refl _, Nat.le_refl _⟩, (fun h => nomatch h), fun k2 hk => ?_⟩
      cases hk
      obtain ⟨p, l, e, R, s, m, args, below, meth, c, nL, D, cA, ao, ρ, A, n0, ad0, Q⟩ := X
      exact mz_out C E
    · obtain ⟨h1, h⟩ := mz_ift h
      obtain ⟨⟨M0, K0, top0, E⟩, hrow⟩ := hE.2.1 (mz_bq h1)
      have key : ∀ hp j l, (bif mz_b4 L j then bif Nat.ble (Nat.succ j) nL then mz_f (mz_p L j 0) fun L2 => go (Nat.add hp l) L2 [] M K n top (Nat.add nc c1) (Nat.add ns s1) else none else none) = some r → mz_b4 L j = true ∧ j < mz_nL X ∧ mz_Ok X r (hp + l) (mz_p L j 0) [] M K n top (nc + c1) (ns + s1) := fun hp j l z => by
        obtain ⟨z1, z⟩ := mz_ift z
        obtain ⟨z2, z⟩ := mz_ift z
        rw [mz_f_eq] at z
        exact ⟨z1, by rw [hnL]; exact mz_bl z2, hG _ _ _ _ _ _ _ _ _ z⟩
      obtain ⟨pre, x, suf, -, hx, -⟩ := mz_find_ok h
      obtain ⟨-, -, g1, g2, -⟩ := key _ _ _ hx
      refine ⟨⟨g1, g2⟩, (fun h => nomatch h), fun k2 hk => ?_⟩
      cases hk
      exact mz_catch C O E hrow h fun hp j l z => ⟨(key hp j l z).1, (key hp j l z).2.1, (key hp j l z).2.2.2.2⟩
/-- the law's script -/
theorem mz_slenG {X : mz_Xt} {cc : ByteArray} {own : String} {Ts : List Jvm.Cond} {F : Nat → Nat × Nat} {pc L M K n top nc ns Ls : Nat} {st : List Nat} {r : mz_Rt} (C : mz_Cx X cc own Ts F) (E : mz_LX X cc r Ls) (hd : decode cc pc = .ok (.arraylength, 1)) (k : mz_G X (pc + 1) L (mz_n Ls :: st) M K n top nc ns) : mz_G X pc L (mz_ow 99 :: st) M K n top nc ns := by
  obtain ⟨p, l, e, R, s, m, args, below, meth, c, nL, D, cA, ao, ρ, A, n0, ad0, Q⟩ := X
  obtain ⟨hex, hb, hml, hown, hts, hK, hA, hF, hV⟩ := C
  obtain ⟨⟨e1, e2, e3⟩, -⟩ := E
  intro ad ls H locs hn had hZ hls hst
  have y := k ad ls H locs hn had hZ hls (mz_hd (mz_cl_I (mz_nw (ρ := ρ) _).1) (List.forall_mem_cons.mp hst).2)
  rw [List.map_cons, mz_cI (mz_nw (ρ := ρ) _).1, (mz_nw (ρ := ρ) _).2] at y
  rw [List.map_cons, (mz_ow_ok (n := n) (ad := ad) (ao := ao) (ρ := ρ) 99).1]
  exact va_slen hex hb e1 e2 e3 hZ.2.2.1 hd y
theorem mz_saldG {X : mz_Xt} {cc : ByteArray} {own : String} {Ts : List Jvm.Cond} {F : Nat → Nat × Nat} {pc L M K n top nc ns Ls i w : Nat} {st : List Nat} {r : mz_Rt} (C : mz_Cx X cc own Ts F) (E : mz_LX X cc r Ls) (hd : decode cc pc = .ok (.iaload, 1)) (hi : mz_sm i = true) (hl : mz_q i < Ls) (hw : mz_I w = true) (he : mz_i (mz_rho X) w = mz_rho X (mz_q i))
    (k : mz_G X (pc + 1) L (w :: st) M K n top nc ns) : mz_G X pc L (i :: mz_ow 99 :: st) M K n top nc ns := by
  obtain ⟨p, l, e, R, s, m, args, below, meth, c, nL, D, cA, ao, ρ, A, n0, ad0, Q⟩ := X
  obtain ⟨hex, hb, hml, hown, hts, hK, hA, hF, hV⟩ := C
  obtain ⟨⟨e1, e2, e3⟩, -⟩ := E
  change mz_i ρ w = ρ (mz_q i) at he
  intro ad ls H locs hn had hZ hls hst
  obtain ⟨i1, i2, i3⟩ := mz_ix (ρ := ρ) hi hl
  have y := k ad ls H locs hn had hZ hls (mz_hd (mz_cl_I hw) (List.forall_mem_cons.mp (List.forall_mem_cons.mp hst).2).2)
  rw [List.map_cons, mz_cI hw, he, ← i3] at y
  rw [List.map_cons, List.map_cons, (mz_ow_ok (n := n) (ad := ad) (ao := ao) (ρ := ρ) 99).1, mz_cI i1]
  exact va_sld hex hb e1 e2 e3 hZ.2.2.1 i2 hd y
end
section
/-! THE CLASSES: their words are in the tables, their fields' kinds, no two fields of one name -/
theorem mz_inG {L : List Jvm.Cond} (h : ∀ w ∈ L, w ∈ lw_tbl ∧ goodWord w = true) : ∀ w ∈ L, w ∈ mz_gG := fun w hw => List.mem_filter.mpr (h w hw)
theorem mz_cw0 : ∀ w ∈ u_ws RJ0 TJ0 2, w ∈ lw_tbl ∧ goodWord w = true := by decide +kernel
theorem mz_cw1 : ∀ w ∈ u_ws RJ6 TJ6 1, w ∈ lw_tbl ∧ goodWord w = true := by decide +kernel
theorem mz_cw2 : ∀ w ∈ u_ws RJx00060 TJx00060 6, w ∈ lw_tbl ∧ goodWord w = true := by decide +kernel
theorem mz_cw3 : ∀ w ∈ u_ws RJx35411 TJx35411 4, w ∈ lw_tbl ∧ goodWord w = true := by decide +kernel
theorem mz_cw4 : ∀ w ∈ u_ws RJx4a65c TJx4a65c 3, w ∈ lw_tbl ∧ goodWord w = true := by decide +kernel
theorem mz_cw5 : ∀ w ∈ u_ws RX0 TX0 4, w ∈ lw_tbl ∧ goodWord w = true := by decide +kernel
theorem mz_cw6 : ∀ w ∈ u_ws RX2 TX2 10, w ∈ lw_tbl ∧ goodWord w = true := by decide +kernel
theorem mz_cw7 : ∀ w ∈ u_ws RX3 TX3 11, w ∈ lw_tbl ∧ goodWord w = true := by decide +kernel
theorem mz_cw8 : ∀ w ∈ u_ws RX4 TX4 3, w ∈ lw_tbl ∧ goodWord w = true := by decide +kernel
theorem mz_cw9 : ∀ w ∈ u_ws RX5 TX5 3, w ∈ lw_tbl ∧ goodWord w = true := by decide +kernel
theorem mz_cw10 : ∀ w ∈ u_ws RX6 TX6 2, w ∈ lw_tbl ∧ goodWord w = true := by decide +kernel
theorem mz_cw11 : ∀ w ∈ u_ws RX7 TX7 14, w ∈ lw_tbl ∧ goodWord w = true := by decide +kernel
theorem mz_cw12 : ∀ w ∈ u_ws RX9 TX9 14, w ∈ lw_tbl ∧ goodWord w = true := by decide +kernel
theorem mz_cw13 : ∀ w ∈ u_ws RX11 TX11 1, w ∈ lw_tbl ∧ goodWord w = true := by decide +kernel
theorem mz_cw14 : ∀ w ∈ u_ws RX12 TX12 3, w ∈ lw_tbl ∧ goodWord w = true := by decide +kernel
theorem mz_cw15 : ∀ w ∈ u_ws RX13 TX13 8, w ∈ lw_tbl ∧ goodWord w = true := by decide +kernel
theorem mz_cw16 : ∀ w ∈ u_ws RX14 TX14 8, w ∈ lw_tbl ∧ goodWord w = true := by decide +kernel
theorem mz_cw17 : ∀ w ∈ u_ws RX15 TX15 19, w ∈ lw_tbl ∧ goodWord w = true := by decide +kernel
def mz_cls : List (Nat → FieldType) := [tyJ0, tyJ6, tyJx00060, tyJx35411, tyJx4a65c, tyX0, tyX2, tyX3, tyX4, tyX5, tyX6, tyX7, tyX9, tyX11, tyX12, tyX13, tyX14, tyX15]
def mz_tyc (ci : Nat) : Nat → FieldType := mz_cls.getD ci fun _ => .int
theorem mz_clf : ∀ (ci : Nat) (q : vw_C), vwCl[ci]? = some q → (∀ w ∈ u_ws q.1 q.2.1 q.2.2, w ∈ mz_gG) ∧ (∀ k, k < q.2.2 → parseFieldDescriptor (q.2.1 k).2.2.1 = some (mz_tyc ci k)) ∧ ∀ a, a < q.2.2 → ∀ b, b < q.2.2 → a ≠ b → (q.2.1 a).2.1 ≠ (q.2.1 b).2.1
  | 0, q, h => by cases h; exact ⟨mz_inG mz_cw0, tyJ0_ok, nmJ0⟩
  | 1, q, h => by cases h; exact ⟨mz_inG mz_cw1, tyJ6_ok, nmJ6⟩
  | 2, q, h => by cases h; exact ⟨mz_inG mz_cw2, tyJx00060_ok, nmJx00060⟩
  | 3, q, h => by cases h; exact ⟨mz_inG mz_cw3, tyJx35411_ok, nmJx35411⟩
  | 4, q, h => by cases h; exact ⟨mz_inG mz_cw4, tyJx4a65c_ok, nmJx4a65c⟩
  | 5, q, h => by cases h; exact ⟨mz_inG mz_cw5, tyX0_ok, nmX0⟩
  | 6, q, h => by cases h; exact ⟨mz_inG mz_cw6, tyX2_ok, nmX2⟩
  | 7, q, h => by cases h; exact ⟨mz_inG mz_cw7, tyX3_ok, nmX3⟩
  | 8, q, h => by cases h; exact ⟨mz_inG mz_cw8, tyX4_ok, nmX4⟩
  | 9, q, h => by cases h; exact ⟨mz_inG mz_cw9, tyX5_ok, nmX5⟩
  | 10, q, h => by cases h; exact ⟨mz_inG mz_cw10, tyX6_ok, nmX6⟩
  | 11, q, h => by cases h; exact ⟨mz_inG mz_cw11, tyX7_ok, nmX7⟩
  | 12, q, h => by cases h; exact ⟨mz_inG mz_cw12, tyX9_ok, nmX9⟩
  | 13, q, h => by cases h; exact ⟨mz_inG mz_cw13, tyX11_ok, nmX11⟩
  | 14, q, h => by cases h; exact ⟨mz_inG mz_cw14, tyX12_ok, nmX12⟩
  | 15, q, h => by cases h; exact ⟨mz_inG mz_cw15, tyX13_ok, nmX13⟩
  | 16, q, h => by cases h; exact ⟨mz_inG mz_cw16, tyX14_ok, nmX14⟩
  | 17, q, h => by cases h; exact ⟨mz_inG mz_cw17, tyX15_ok, nmX15⟩
  | k + 18, q, h => by
    rw [List.getElem?_eq_none (by simp [vwCl])] at h
    cases h
def mz_dlt : Nat → Nat × List Nat := (mz_nd 8 (mz_nd 3 (mz_nd 1 (mz_nd 0 (mz_lf (2, [2, 1])) (mz_lf (1, [1]))) (mz_nd 2 (mz_lf (6, [2, 2, 2, 2, 1, 2])) (mz_lf (4, [1, 1, 1, 2])))) (mz_nd 5 (mz_nd 4 (mz_lf (3, [1, 2, 1])) (mz_lf (4, [2, 2, 2, 1]))) (mz_nd 6 (mz_lf (10, [1, 1, 1, 2, 1, 1, 1, 1, 1, 1])) (mz_nd 7 (mz_lf (11, [1, 1, 1, 1, 2, 2, 1, 2, 2, 1, 1])) (mz_lf (3, [2, 2, 1])))))) (mz_nd 12 (mz_nd 10 (mz_nd 9 (mz_lf (3, [1, 1, 1])) (mz_lf (2, [2, 1]))) (mz_nd 11 (mz_lf (14, [1, 2, 1, 1, 1, 2, 1, 2, 1, 1, 1, 1, 1, 1])) (mz_lf (14, [2, 2, 2, 2, 2, 2, 1, 1, 1, 1, 1, 1, 1, 1])))) (mz_nd 14 (mz_nd 13 (mz_lf (1, [2])) (mz_lf (3, [1, 1, 1]))) (mz_nd 15 (mz_lf (8, [1, 1, 1, 1, 1, 1, 1, 1])) (mz_nd 16 (mz_lf (8, [1, 1, 1, 1, 1, 1, 1, 2])) (mz_lf (19, [1, 2, 2, 2, 2, 2, 2, 1, 1, 1, 1, 1, 2, 2, 2, 2, 1, 1, 1])))))))
theorem mz_dlt_ok : ∀ (ci : Nat) (q : vw_C), vwCl[ci]? = some q → mz_dlt ci = (q.2.2, (List.range q.2.2).map fun j => mz_dw (mz_tyc ci j))
  | 0, q, h => by cases h; decide +kernel
  | 1, q, h => by cases h; decide +kernel
  | 2, q, h => by cases h; decide +kernel
  | 3, q, h => by cases h; decide +kernel
  | 4, q, h => by cases h; decide +kernel
  | 5, q, h => by cases h; decide +kernel
  | 6, q, h => by cases h; decide +kernel
  | 7, q, h => by cases h; decide +kernel
  | 8, q, h => by cases h; decide +kernel
  | 9, q, h => by cases h; decide +kernel
  | 10, q, h => by cases h; decide +kernel
  | 11, q, h => by cases h; decide +kernel
  | 12, q, h => by cases h; decide +kernel
  | 13, q, h => by cases h; decide +kernel
  | 14, q, h => by cases h; decide +kernel
  | 15, q, h => by cases h; decide +kernel
  | 16, q, h => by cases h; decide +kernel
  | 17, q, h => by cases h; decide +kernel
  | k + 18, q, h => by
    rw [List.getElem?_eq_none (by simp [vwCl])] at h
    cases h
/-- the law's switch: where it goes else, and by number -/
def mz_sw : Nat × List Nat := (2189, [208, 276, 332, 409, 465, 521, 598, 656, 712, 768, 824, 880, 943, 1011, 1079, 1135, 1215, 1295, 1351, 1407, 1463, 1519, 1575, 1631, 1687, 1743, 1799, 1855, 1911, 1924, 1992, 2005, 2018, 2031, 2045, 2111, 2176])
/-- an object of the class ci goes into an array of the kind t -/
def mz_acl (t ci : Nat) : Bool := bif Nat.beq t 8 then Nat.ble (Nat.succ ci) 18 else bif Nat.beq t 7 then Nat.beq ci 6 else bif Nat.beq t 6 then Nat.beq ci 7 else bif Nat.beq t 5 then Nat.beq ci 11 else false
theorem mz_acl_ok : ∀ (t ci : Nat), mz_acl t ci = true → ∃ r : vw_C, vwCl[ci]? = some r ∧ (mz_ty.getD t .int = .object r.1 ∨ (mz_ty.getD t .int = .object "java/lang/Object" ∧ Jvm.Cond.castable r.1 "java/lang/Object" ∈ lw_tbl)) := fun t ci h => by
  unfold mz_acl at h
  rcases mz_ifB h with ⟨h1, h⟩ | ⟨-, h⟩
  · rw [mz_bq h1]
    have h2 := mz_bl h
    have q : ∀ i : Fin 18, ∃ r : vw_C, vwCl[i.val]? = some r ∧ Jvm.Cond.castable r.1 "java/lang/Object" ∈ lw_tbl := fun i => by
      match i with
      | ⟨0, _⟩ => exact ⟨_, rfl, by decide +kernel⟩
      | ⟨1, _⟩ => exact ⟨_, rfl, by decide +kernel⟩
      | ⟨2, _⟩ => exact ⟨_, rfl, by decide +kernel⟩
      | ⟨3, _⟩ => exact ⟨_, rfl, by decide +kernel⟩
      | ⟨4, _⟩ => exact ⟨_, rfl, by decide +kernel⟩
      | ⟨5, _⟩ => exact ⟨_, rfl, by decide +kernel⟩
      | ⟨6, _⟩ => exact ⟨_, rfl, by decide +kernel⟩
      | ⟨7, _⟩ => exact ⟨_, rfl, by decide +kernel⟩
      | ⟨8, _⟩ => exact ⟨_, rfl, by decide +kernel⟩
      | ⟨9, _⟩ => exact ⟨_, rfl, by decide +kernel⟩
      | ⟨10, _⟩ => exact ⟨_, rfl, by decide +kernel⟩
      | ⟨11, _⟩ => exact ⟨_, rfl, by decide +kernel⟩
      | ⟨12, _⟩ => exact ⟨_, rfl, by decide +kernel⟩
      | ⟨13, _⟩ => exact ⟨_, rfl, by decide +kernel⟩
      | ⟨14, _⟩ => exact ⟨_, rfl, by decide +kernel⟩
      | ⟨15, _⟩ => exact ⟨_, rfl, by decide +kernel⟩
      | ⟨16, _⟩ => exact ⟨_, rfl, by decide +kernel⟩
      | ⟨17, _⟩ => exact ⟨_, rfl, by decide +kernel⟩
      | ⟨k + 18, hk⟩ => exact absurd hk (by omega)
    obtain ⟨r, a1, a2⟩ := q ⟨ci, h2⟩
    exact ⟨r, a1, Or.inr ⟨rfl, a2⟩⟩
  rcases mz_ifB h with ⟨h1, h⟩ | ⟨-, h⟩
  · rw [mz_bq h1, mz_bq h]
    exact ⟨_, rfl, Or.inl rfl⟩
  rcases mz_ifB h with ⟨h1, h⟩ | ⟨-, h⟩
  · rw [mz_bq h1, mz_bq h]
    exact ⟨_, rfl, Or.inl rfl⟩
  rcases mz_ifB h with ⟨h1, h⟩ | ⟨-, h⟩
  · rw [mz_bq h1, mz_bq h]
    exact ⟨_, rfl, Or.inl rfl⟩
  cases h
def mz_aok (n K v t : Nat) : Bool := bif mz_R v then bif Nat.beq (mz_q v) 0 then true else bif mz_ref n v then mz_acl t (mz_ct K (mz_k v)) else false else false
theorem mz_acl_lt {t ci : Nat} (h : mz_acl t ci = true) : ci < 64 := by
  obtain ⟨r, h1, -⟩ := mz_acl_ok t ci h
  exact Nat.lt_of_lt_of_le (List.getElem?_eq_some_iff.mp h1).1 (by decide)
theorem mz_aok_ok {X : mz_Xt} (O : mz_OX X) {n K v t : Nat} (h : mz_aok n K v t = true) : (mz_R v = true ∧ mz_q v = 0) ∨ (mz_ref n v = true ∧ ∃ (ci : Nat) (r : vw_C), mz_ct K (mz_k v) = ci ∧ ci < 64 ∧ vwCl[ci]? = some r ∧ (mz_ty.getD t .int = .object r.1 ∨ ∃ E : String, mz_ty.getD t .int = .object E ∧ mz_bf X (Jvm.Cond.castable r.1 E))) := by
  obtain ⟨h1, h⟩ := mz_bft h
  rcases mz_ifB h with ⟨h2, -⟩ | ⟨-, h⟩
  · exact Or.inl ⟨h1, mz_bq h2⟩
  · obtain ⟨h2, h⟩ := mz_bft h
    obtain ⟨r, g1, g2⟩ := mz_acl_ok _ _ h
    refine Or.inr ⟨h2, _, r, rfl, mz_acl_lt h, g1, ?_⟩
    rcases g2 with g2 | ⟨g2, g3⟩
    · exact Or.inl g2
    · exact Or.inr ⟨_, g2, mz_bfn O g3 rfl⟩
theorem mz_toInt {z : Int32} {k : Nat} (h : ¬ z < 0) (h2 : z.toNatClampNeg = k) : z.toInt = (k : Int) := by
  have hz0 : (0 : Int) ≤ z.toInt := by
    have := Int32.not_lt.mp h
    simpa using Int32.le_iff_toInt_le.mp this
  subst h2
  show z.toInt = ((z.toInt.toNat : Nat) : Int)
  omega
theorem mz_LXr {X : mz_Xt} {cc : ByteArray} {r : mz_Rt} {Ls pc L M K n top nc ns w : Nat} (E : mz_LX X cc r Ls) (hd : decode cc pc = .ok (.ireturn, 1)) (hr : r = (0, some w, M, K, n, top, nc, ns)) (hw : mz_I w = true) : mz_G X pc L [w] M K n top nc ns := by
  obtain ⟨p, l, e, R, s, m, args, below, meth, c, nL, D, cA, ao, ρ, A, n0, ad0, Q⟩ := X
  exact E.2 _ _ _ _ _ _ _ _ _ hd hr hw
def mz_nix : Nat := 13
def mz_nsx : ByteArray := prog_50_method_4_code
theorem mz_nsx0 : decode mz_nsx 0 = .ok (.aload_n 0, 1) := by decide +kernel
theorem mz_nsx1 : decode mz_nsx 1 = .ok (.aload_n 1, 1) := by decide +kernel
theorem mz_nsx2 : decode mz_nsx 2 = .ok (.invokespecial mz_nix, 3) := by decide +kernel
theorem mz_nsx5 : decode mz_nsx 5 = .ok (.return_, 1) := by decide +kernel
end
section
/-! THE STEPS, 0 -/
noncomputable def mz_s_iconst (F : Nat → Nat × Nat) (nL mo : Nat) (hs : List mz_Hr) (call : mz_Ca) (go : mz_Go) (e pc L : Nat) (st : List Nat) (M K n top nc ns : Nat) : Option mz_Rt :=
  mz_f (mz_n (mz_ea e)) fun w => go (Nat.add pc 1) L (w :: st) M K n top nc ns
def mz_k_iconst (own mn : String) (cc : ByteArray) (mo : Nat) (ret : Option FieldType) (e pc : Nat) : Bool := decide (decode cc pc = .ok (.iconst (mz_z (mz_ea e)), 1) ∧ Int32.ofInt (mz_z (mz_ea e)) = nI (mz_ea e))
theorem mz_t_iconst (mk : mz_Mk) : mz_Lk mk mz_s_iconst mz_k_iconst := by
  intro X own cc F nL mo d hs ret r call go e pc L st M K n top nc ns ⟨C, O, hnL, hR, hD, hE, hC, hG⟩ hk h
  have hd := of_decide_eq_true hk
  unfold mz_s_iconst at h
  rw [mz_f_eq] at h
  obtain ⟨g1, g2, g3⟩ := hG _ _ _ _ _ _ _ _ _ h
  exact ⟨g1, g2, mz_iconst C hd.1 hd.2 g3⟩
noncomputable def mz_s_bipush (F : Nat → Nat × Nat) (nL mo : Nat) (hs : List mz_Hr) (call : mz_Ca) (go : mz_Go) (e pc L : Nat) (st : List Nat) (M K n top nc ns : Nat) : Option mz_Rt :=
  mz_f (mz_n (mz_ea e)) fun w => go (Nat.add pc 2) L (w :: st) M K n top nc ns
def mz_k_bipush (own mn : String) (cc : ByteArray) (mo : Nat) (ret : Option FieldType) (e pc : Nat) : Bool := decide (decode cc pc = .ok (.bipush (mz_z (mz_ea e)), 2) ∧ (Int8.ofInt (mz_z (mz_ea e))).toInt32 = nI (mz_ea e))
theorem mz_t_bipush (mk : mz_Mk) : mz_Lk mk mz_s_bipush mz_k_bipush := by
  intro X own cc F nL mo d hs ret r call go e pc L st M K n top nc ns ⟨C, O, hnL, hR, hD, hE, hC, hG⟩ hk h
  have hd := of_decide_eq_true hk
  unfold mz_s_bipush at h
  rw [mz_f_eq] at h
  obtain ⟨g1, g2, g3⟩ := hG _ _ _ _ _ _ _ _ _ h
  exact ⟨g1, g2, mz_bipush C hd.1 hd.2 g3⟩
noncomputable def mz_s_sipush (F : Nat → Nat × Nat) (nL mo : Nat) (hs : List mz_Hr) (call : mz_Ca) (go : mz_Go) (e pc L : Nat) (st : List Nat) (M K n top nc ns : Nat) : Option mz_Rt :=
  mz_f (mz_n (mz_ea e)) fun w => go (Nat.add pc 3) L (w :: st) M K n top nc ns
def mz_k_sipush (own mn : String) (cc : ByteArray) (mo : Nat) (ret : Option FieldType) (e pc : Nat) : Bool := decide (decode cc pc = .ok (.sipush (mz_z (mz_ea e)), 3) ∧ (Int16.ofInt (mz_z (mz_ea e))).toInt32 = nI (mz_ea e))
theorem mz_t_sipush (mk : mz_Mk) : mz_Lk mk mz_s_sipush mz_k_sipush := by
  intro X own cc F nL mo d hs ret r call go e pc L st M K n top nc ns ⟨C, O, hnL, hR, hD, hE, hC, hG⟩ hk h
  have hd := of_decide_eq_true hk
  unfold mz_s_sipush at h
  rw [mz_f_eq] at h
  obtain ⟨g1, g2, g3⟩ := hG _ _ _ _ _ _ _ _ _ h
  exact ⟨g1, g2, mz_sipush C hd.1 hd.2 g3⟩
noncomputable def mz_s_ldci (F : Nat → Nat × Nat) (nL mo : Nat) (hs : List mz_Hr) (call : mz_Ca) (go : mz_Go) (e pc L : Nat) (st : List Nat) (M K n top nc ns : Nat) : Option mz_Rt :=
  mz_f (mz_n (mz_ea e)) fun w => go (Nat.add pc 2) L (w :: st) M K n top nc ns
def mz_k_ldci (own mn : String) (cc : ByteArray) (mo : Nat) (ret : Option FieldType) (e pc : Nat) : Bool := decide (decode cc pc = .ok (.ldc (mz_ex e), 2) ∧ Jvm.Cond.constant own (mz_ex e) (nI (mz_ea e)) ∈ mz_gG)
theorem mz_t_ldci (mk : mz_Mk) : mz_Lk mk mz_s_ldci mz_k_ldci := by
  intro X own cc F nL mo d hs ret r call go e pc L st M K n top nc ns ⟨C, O, hnL, hR, hD, hE, hC, hG⟩ hk h
  have hd := of_decide_eq_true hk
  unfold mz_s_ldci at h
  rw [mz_f_eq] at h
  obtain ⟨g1, g2, g3⟩ := hG _ _ _ _ _ _ _ _ _ h
  exact ⟨g1, g2, mz_ldci C hd.1 hd.2 rfl g3⟩
noncomputable def mz_s_ldcs (F : Nat → Nat × Nat) (nL mo : Nat) (hs : List mz_Hr) (call : mz_Ca) (go : mz_Go) (e pc L : Nat) (st : List Nat) (M K n top nc ns : Nat) : Option mz_Rt :=
  mz_f (mz_ow (Nat.add 1 (Nat.mul 2 (mz_ey e)))) fun w => go (Nat.add pc 2) L (w :: st) M K n top nc ns
def mz_k_ldcs (own mn : String) (cc : ByteArray) (mo : Nat) (ret : Option FieldType) (e pc : Nat) : Bool := bif decide (decode cc pc = .ok (.ldc (mz_ex e), 2)) then (mz_strs[mz_ey e]?).elim false (fun q => decide (q.1 = own ∧ q.2.1 = mz_ex e)) else false
theorem mz_t_ldcs (mk : mz_Mk) : mz_Lk mk mz_s_ldcs mz_k_ldcs := by
  intro X own cc F nL mo d hs ret r call go e pc L st M K n top nc ns ⟨C, O, hnL, hR, hD, hE, hC, hG⟩ hk h
  obtain ⟨hd, hk⟩ := mz_bft hk
  have hd := of_decide_eq_true hd
  obtain ⟨⟨o1, i1, t1, b1⟩, hj, hk⟩ := mz_elim hk
  obtain ⟨rfl, rfl⟩ := of_decide_eq_true hk
  unfold mz_s_ldcs at h
  rw [mz_f_eq] at h
  obtain ⟨g1, g2, g3⟩ := hG _ _ _ _ _ _ _ _ _ h
  exact ⟨g1, g2, mz_ldcs C O hd hj g3⟩
noncomputable def mz_s_null (F : Nat → Nat × Nat) (nL mo : Nat) (hs : List mz_Hr) (call : mz_Ca) (go : mz_Go) (e pc L : Nat) (st : List Nat) (M K n top nc ns : Nat) : Option mz_Rt :=
  go (Nat.add pc 1) L (2 :: st) M K n top nc ns
def mz_k_null (own mn : String) (cc : ByteArray) (mo : Nat) (ret : Option FieldType) (e pc : Nat) : Bool := decide (decode cc pc = .ok (.aconst_null, 1))
theorem mz_t_null (mk : mz_Mk) : mz_Lk mk mz_s_null mz_k_null := by
  intro X own cc F nL mo d hs ret r call go e pc L st M K n top nc ns ⟨C, O, hnL, hR, hD, hE, hC, hG⟩ hk h
  have hd := of_decide_eq_true hk
  unfold mz_s_null at h
  obtain ⟨g1, g2, g3⟩ := hG _ _ _ _ _ _ _ _ _ h
  exact ⟨g1, g2, mz_null C hd g3⟩
noncomputable def mz_s_lconst0 (F : Nat → Nat × Nat) (nL mo : Nat) (hs : List mz_Hr) (call : mz_Ca) (go : mz_Go) (e pc L : Nat) (st : List Nat) (M K n top nc ns : Nat) : Option mz_Rt :=
  go (Nat.add pc 1) L (3 :: st) M K n top nc ns
def mz_k_lconst0 (own mn : String) (cc : ByteArray) (mo : Nat) (ret : Option FieldType) (e pc : Nat) : Bool := decide (decode cc pc = .ok (.lconst (0 : Fin 2), 1))
theorem mz_t_lconst0 (mk : mz_Mk) : mz_Lk mk mz_s_lconst0 mz_k_lconst0 := by
  intro X own cc F nL mo d hs ret r call go e pc L st M K n top nc ns ⟨C, O, hnL, hR, hD, hE, hC, hG⟩ hk h
  have hd := of_decide_eq_true hk
  unfold mz_s_lconst0 at h
  obtain ⟨g1, g2, g3⟩ := hG _ _ _ _ _ _ _ _ _ h
  exact ⟨g1, g2, mz_lconst (z := (0 : Fin 2)) C hd g3⟩
noncomputable def mz_s_lconst1 (F : Nat → Nat × Nat) (nL mo : Nat) (hs : List mz_Hr) (call : mz_Ca) (go : mz_Go) (e pc L : Nat) (st : List Nat) (M K n top nc ns : Nat) : Option mz_Rt :=
  go (Nat.add pc 1) L (19 :: st) M K n top nc ns
def mz_k_lconst1 (own mn : String) (cc : ByteArray) (mo : Nat) (ret : Option FieldType) (e pc : Nat) : Bool := decide (decode cc pc = .ok (.lconst (1 : Fin 2), 1))
theorem mz_t_lconst1 (mk : mz_Mk) : mz_Lk mk mz_s_lconst1 mz_k_lconst1 := by
  intro X own cc F nL mo d hs ret r call go e pc L st M K n top nc ns ⟨C, O, hnL, hR, hD, hE, hC, hG⟩ hk h
  have hd := of_decide_eq_true hk
  unfold mz_s_lconst1 at h
  obtain ⟨g1, g2, g3⟩ := hG _ _ _ _ _ _ _ _ _ h
  exact ⟨g1, g2, mz_lconst (z := (1 : Fin 2)) C hd g3⟩
noncomputable def mz_s_fconst (F : Nat → Nat × Nat) (nL mo : Nat) (hs : List mz_Hr) (call : mz_Ca) (go : mz_Go) (e pc L : Nat) (st : List Nat) (M K n top nc ns : Nat) : Option mz_Rt :=
  go (Nat.add pc 1) L (7 :: st) M K n top nc ns
def mz_k_fconst (own mn : String) (cc : ByteArray) (mo : Nat) (ret : Option FieldType) (e pc : Nat) : Bool := decide (decode cc pc = .ok (.fconst 0, 1))
theorem mz_t_fconst (mk : mz_Mk) : mz_Lk mk mz_s_fconst mz_k_fconst := by
  intro X own cc F nL mo d hs ret r call go e pc L st M K n top nc ns ⟨C, O, hnL, hR, hD, hE, hC, hG⟩ hk h
  have hd := of_decide_eq_true hk
  unfold mz_s_fconst at h
  obtain ⟨g1, g2, g3⟩ := hG _ _ _ _ _ _ _ _ _ h
  exact ⟨g1, g2, mz_fconst C hd g3⟩
noncomputable def mz_s_dconst (F : Nat → Nat × Nat) (nL mo : Nat) (hs : List mz_Hr) (call : mz_Ca) (go : mz_Go) (e pc L : Nat) (st : List Nat) (M K n top nc ns : Nat) : Option mz_Rt :=
  go (Nat.add pc 1) L (8 :: st) M K n top nc ns
def mz_k_dconst (own mn : String) (cc : ByteArray) (mo : Nat) (ret : Option FieldType) (e pc : Nat) : Bool := decide (decode cc pc = .ok (.dconst 0, 1))
theorem mz_t_dconst (mk : mz_Mk) : mz_Lk mk mz_s_dconst mz_k_dconst := by
  intro X own cc F nL mo d hs ret r call go e pc L st M K n top nc ns ⟨C, O, hnL, hR, hD, hE, hC, hG⟩ hk h
  have hd := of_decide_eq_true hk
  unfold mz_s_dconst at h
  obtain ⟨g1, g2, g3⟩ := hG _ _ _ _ _ _ _ _ _ h
  exact ⟨g1, g2, mz_dconst C hd g3⟩
noncomputable def mz_s_iloadn (F : Nat → Nat × Nat) (nL mo : Nat) (hs : List mz_Hr) (call : mz_Ca) (go : mz_Go) (e pc L : Nat) (st : List Nat) (M K n top nc ns : Nat) : Option mz_Rt :=
  mz_f (mz_g L (Nat.mod (mz_ex e) 4)) fun w => bif mz_I w then go (Nat.succ pc) L (w :: st) M K n top nc ns else none
def mz_k_iloadn (own mn : String) (cc : ByteArray) (mo : Nat) (ret : Option FieldType) (e pc : Nat) : Bool := decide (decode cc pc = .ok (.iload_n (mz_j e), 1))
theorem mz_t_iloadn (mk : mz_Mk) : mz_Lk mk mz_s_iloadn mz_k_iloadn := by
  intro X own cc F nL mo d hs ret r call go e pc L st M K n top nc ns ⟨C, O, hnL, hR, hD, hE, hC, hG⟩ hk h
  have hd := of_decide_eq_true hk
  unfold mz_s_iloadn at h
  rw [mz_f_eq] at h
  obtain ⟨h1, h⟩ := mz_ift h
  obtain ⟨g1, g2, g3⟩ := hG _ _ _ _ _ _ _ _ _ h
  exact ⟨g1, g2, mz_iload_n C hd h1 g3⟩
noncomputable def mz_s_iload (F : Nat → Nat × Nat) (nL mo : Nat) (hs : List mz_Hr) (call : mz_Ca) (go : mz_Go) (e pc L : Nat) (st : List Nat) (M K n top nc ns : Nat) : Option mz_Rt :=
  mz_f (mz_g L (mz_ex e)) fun w => bif mz_I w then go (Nat.add pc 2) L (w :: st) M K n top nc ns else none
def mz_k_iload (own mn : String) (cc : ByteArray) (mo : Nat) (ret : Option FieldType) (e pc : Nat) : Bool := decide (decode cc pc = .ok (.iload (mz_ex e), 2))
theorem mz_t_iload (mk : mz_Mk) : mz_Lk mk mz_s_iload mz_k_iload := by
  intro X own cc F nL mo d hs ret r call go e pc L st M K n top nc ns ⟨C, O, hnL, hR, hD, hE, hC, hG⟩ hk h
  have hd := of_decide_eq_true hk
  unfold mz_s_iload at h
  rw [mz_f_eq] at h
  obtain ⟨h1, h⟩ := mz_ift h
  obtain ⟨g1, g2, g3⟩ := hG _ _ _ _ _ _ _ _ _ h
  exact ⟨g1, g2, mz_iload C hd h1 g3⟩
noncomputable def mz_s_lloadn (F : Nat → Nat × Nat) (nL mo : Nat) (hs : List mz_Hr) (call : mz_Ca) (go : mz_Go) (e pc L : Nat) (st : List Nat) (M K n top nc ns : Nat) : Option mz_Rt :=
  mz_f (mz_g L (Nat.mod (mz_ex e) 4)) fun w => bif mz_L w then go (Nat.succ pc) L (w :: st) M K n top nc ns else none
def mz_k_lloadn (own mn : String) (cc : ByteArray) (mo : Nat) (ret : Option FieldType) (e pc : Nat) : Bool := decide (decode cc pc = .ok (.lload_n (mz_j e), 1))
theorem mz_t_lloadn (mk : mz_Mk) : mz_Lk mk mz_s_lloadn mz_k_lloadn := by
  intro X own cc F nL mo d hs ret r call go e pc L st M K n top nc ns ⟨C, O, hnL, hR, hD, hE, hC, hG⟩ hk h
  have hd := of_decide_eq_true hk
  unfold mz_s_lloadn at h
  rw [mz_f_eq] at h
  obtain ⟨h1, h⟩ := mz_ift h
  obtain ⟨g1, g2, g3⟩ := hG _ _ _ _ _ _ _ _ _ h
  exact ⟨g1, g2, mz_lload_n C hd h1 g3⟩
noncomputable def mz_s_aloadn (F : Nat → Nat × Nat) (nL mo : Nat) (hs : List mz_Hr) (call : mz_Ca) (go : mz_Go) (e pc L : Nat) (st : List Nat) (M K n top nc ns : Nat) : Option mz_Rt :=
  mz_f (mz_g L (Nat.mod (mz_ex e) 4)) fun w => bif mz_R w then go (Nat.succ pc) L (w :: st) M K n top nc ns else none
def mz_k_aloadn (own mn : String) (cc : ByteArray) (mo : Nat) (ret : Option FieldType) (e pc : Nat) : Bool := decide (decode cc pc = .ok (.aload_n (mz_j e), 1))
theorem mz_t_aloadn (mk : mz_Mk) : mz_Lk mk mz_s_aloadn mz_k_aloadn := by
  intro X own cc F nL mo d hs ret r call go e pc L st M K n top nc ns ⟨C, O, hnL, hR, hD, hE, hC, hG⟩ hk h
  have hd := of_decide_eq_true hk
  unfold mz_s_aloadn at h
  rw [mz_f_eq] at h
  obtain ⟨h1, h⟩ := mz_ift h
  obtain ⟨g1, g2, g3⟩ := hG _ _ _ _ _ _ _ _ _ h
  exact ⟨g1, g2, mz_aload_n C hd h1 g3⟩
noncomputable def mz_s_aload (F : Nat → Nat × Nat) (nL mo : Nat) (hs : List mz_Hr) (call : mz_Ca) (go : mz_Go) (e pc L : Nat) (st : List Nat) (M K n top nc ns : Nat) : Option mz_Rt :=
  mz_f (mz_g L (mz_ex e)) fun w => bif mz_R w then go (Nat.add pc 2) L (w :: st) M K n top nc ns else none
def mz_k_aload (own mn : String) (cc : ByteArray) (mo : Nat) (ret : Option FieldType) (e pc : Nat) : Bool := decide (decode cc pc = .ok (.aload (mz_ex e), 2))
theorem mz_t_aload (mk : mz_Mk) : mz_Lk mk mz_s_aload mz_k_aload := by
  intro X own cc F nL mo d hs ret r call go e pc L st M K n top nc ns ⟨C, O, hnL, hR, hD, hE, hC, hG⟩ hk h
  have hd := of_decide_eq_true hk
  unfold mz_s_aload at h
  rw [mz_f_eq] at h
  obtain ⟨h1, h⟩ := mz_ift h
  obtain ⟨g1, g2, g3⟩ := hG _ _ _ _ _ _ _ _ _ h
  exact ⟨g1, g2, mz_aload C hd h1 g3⟩
noncomputable def mz_s_istoren (F : Nat → Nat × Nat) (nL mo : Nat) (hs : List mz_Hr) (call : mz_Ca) (go : mz_Go) (e pc L : Nat) (st : List Nat) (M K n top nc ns : Nat) : Option mz_Rt :=
  mz_p1 st fun w l => bif mz_I w then bif mz_wf w then bif mz_b4 L (Nat.mod (mz_ex e) 4) then bif Nat.ble (Nat.succ (Nat.mod (mz_ex e) 4)) nL then mz_f (mz_p L (Nat.mod (mz_ex e) 4) w) fun L2 => go (Nat.add pc 1) L2 l M K n top nc ns else none else none else none else none
def mz_k_istoren (own mn : String) (cc : ByteArray) (mo : Nat) (ret : Option FieldType) (e pc : Nat) : Bool := decide (decode cc pc = .ok (.istore_n (mz_j e), 1))
theorem mz_t_istoren (mk : mz_Mk) : mz_Lk mk mz_s_istoren mz_k_istoren := by
  intro X own cc F nL mo d hs ret r call go e pc L st M K n top nc ns ⟨C, O, hnL, hR, hD, hE, hC, hG⟩ hk h
  have hd := of_decide_eq_true hk
  unfold mz_s_istoren at h
  obtain ⟨w, l, rfl, hp⟩ := mz_p1_ok h
  have h := hp
  obtain ⟨h1, h⟩ := mz_ift h
  obtain ⟨h2, h⟩ := mz_ift h
  obtain ⟨h3, h⟩ := mz_ift h
  obtain ⟨h4, h⟩ := mz_ift h
  rw [mz_f_eq] at h
  obtain ⟨g1, g2, g3⟩ := hG _ _ _ _ _ _ _ _ _ h
  exact ⟨g1, g2, mz_istore_n C hd h1 (mz_wf_ok h2) h3 (by rw [hnL]; exact mz_bl h4) g3⟩
noncomputable def mz_s_istore (F : Nat → Nat × Nat) (nL mo : Nat) (hs : List mz_Hr) (call : mz_Ca) (go : mz_Go) (e pc L : Nat) (st : List Nat) (M K n top nc ns : Nat) : Option mz_Rt :=
  mz_p1 st fun w l => bif mz_I w then bif mz_wf w then bif mz_b4 L (mz_ex e) then bif Nat.ble (Nat.succ (mz_ex e)) nL then mz_f (mz_p L (mz_ex e) w) fun L2 => go (Nat.add pc 2) L2 l M K n top nc ns else none else none else none else none
def mz_k_istore (own mn : String) (cc : ByteArray) (mo : Nat) (ret : Option FieldType) (e pc : Nat) : Bool := decide (decode cc pc = .ok (.istore (mz_ex e), 2))
theorem mz_t_istore (mk : mz_Mk) : mz_Lk mk mz_s_istore mz_k_istore := by
  intro X own cc F nL mo d hs ret r call go e pc L st M K n top nc ns ⟨C, O, hnL, hR, hD, hE, hC, hG⟩ hk h
  have hd := of_decide_eq_true hk
  unfold mz_s_istore at h
  obtain ⟨w, l, rfl, hp⟩ := mz_p1_ok h
  have h := hp
  obtain ⟨h1, h⟩ := mz_ift h
  obtain ⟨h2, h⟩ := mz_ift h
  obtain ⟨h3, h⟩ := mz_ift h
  obtain ⟨h4, h⟩ := mz_ift h
  rw [mz_f_eq] at h
  obtain ⟨g1, g2, g3⟩ := hG _ _ _ _ _ _ _ _ _ h
  exact ⟨g1, g2, mz_istore C hd h1 (mz_wf_ok h2) h3 (by rw [hnL]; exact mz_bl h4) g3⟩
noncomputable def mz_s_astoren (F : Nat → Nat × Nat) (nL mo : Nat) (hs : List mz_Hr) (call : mz_Ca) (go : mz_Go) (e pc L : Nat) (st : List Nat) (M K n top nc ns : Nat) : Option mz_Rt :=
  mz_p1 st fun w l => bif mz_R w then bif mz_wf w then bif mz_b4 L (Nat.mod (mz_ex e) 4) then bif Nat.ble (Nat.succ (Nat.mod (mz_ex e) 4)) nL then mz_f (mz_p L (Nat.mod (mz_ex e) 4) w) fun L2 => go (Nat.add pc 1) L2 l M K n top nc ns else none else none else none else none
def mz_k_astoren (own mn : String) (cc : ByteArray) (mo : Nat) (ret : Option FieldType) (e pc : Nat) : Bool := decide (decode cc pc = .ok (.astore_n (mz_j e), 1))
theorem mz_t_astoren (mk : mz_Mk) : mz_Lk mk mz_s_astoren mz_k_astoren := by
  intro X own cc F nL mo d hs ret r call go e pc L st M K n top nc ns ⟨C, O, hnL, hR, hD, hE, hC, hG⟩ hk h
  have hd := of_decide_eq_true hk
  unfold mz_s_astoren at h
  obtain ⟨w, l, rfl, hp⟩ := mz_p1_ok h
  have h := hp
  obtain ⟨h1, h⟩ := mz_ift h
  obtain ⟨h2, h⟩ := mz_ift h
  obtain ⟨h3, h⟩ := mz_ift h
  obtain ⟨h4, h⟩ := mz_ift h
  rw [mz_f_eq] at h
  obtain ⟨g1, g2, g3⟩ := hG _ _ _ _ _ _ _ _ _ h
  exact ⟨g1, g2, mz_astore_n C hd h1 (mz_wf_ok h2) h3 (by rw [hnL]; exact mz_bl h4) g3⟩
noncomputable def mz_s_astore (F : Nat → Nat × Nat) (nL mo : Nat) (hs : List mz_Hr) (call : mz_Ca) (go : mz_Go) (e pc L : Nat) (st : List Nat) (M K n top nc ns : Nat) : Option mz_Rt :=
  mz_p1 st fun w l => bif mz_R w then bif mz_wf w then bif mz_b4 L (mz_ex e) then bif Nat.ble (Nat.succ (mz_ex e)) nL then mz_f (mz_p L (mz_ex e) w) fun L2 => go (Nat.add pc 2) L2 l M K n top nc ns else none else none else none else none
def mz_k_astore (own mn : String) (cc : ByteArray) (mo : Nat) (ret : Option FieldType) (e pc : Nat) : Bool := decide (decode cc pc = .ok (.astore (mz_ex e), 2))
theorem mz_t_astore (mk : mz_Mk) : mz_Lk mk mz_s_astore mz_k_astore := by
  intro X own cc F nL mo d hs ret r call go e pc L st M K n top nc ns ⟨C, O, hnL, hR, hD, hE, hC, hG⟩ hk h
  have hd := of_decide_eq_true hk
  unfold mz_s_astore at h
  obtain ⟨w, l, rfl, hp⟩ := mz_p1_ok h
  have h := hp
  obtain ⟨h1, h⟩ := mz_ift h
  obtain ⟨h2, h⟩ := mz_ift h
  obtain ⟨h3, h⟩ := mz_ift h
  obtain ⟨h4, h⟩ := mz_ift h
  rw [mz_f_eq] at h
  obtain ⟨g1, g2, g3⟩ := hG _ _ _ _ _ _ _ _ _ h
  exact ⟨g1, g2, mz_astore C hd h1 (mz_wf_ok h2) h3 (by rw [hnL]; exact mz_bl h4) g3⟩
noncomputable def mz_s_lstoren (F : Nat → Nat × Nat) (nL mo : Nat) (hs : List mz_Hr) (call : mz_Ca) (go : mz_Go) (e pc L : Nat) (st : List Nat) (M K n top nc ns : Nat) : Option mz_Rt :=
  mz_p1 st fun w l => bif mz_L w then bif mz_wf w then bif mz_b4 L (Nat.mod (mz_ex e) 4) then bif Nat.ble (Nat.succ (Nat.succ (Nat.mod (mz_ex e) 4))) nL then mz_f (mz_p (mz_p L (Nat.mod (mz_ex e) 4) w) (Nat.succ (Nat.mod (mz_ex e) 4)) 0) fun L2 => go (Nat.add pc 1) L2 l M K n top nc ns else none else none else none else none
def mz_k_lstoren (own mn : String) (cc : ByteArray) (mo : Nat) (ret : Option FieldType) (e pc : Nat) : Bool := decide (decode cc pc = .ok (.lstore_n (mz_j e), 1))
theorem mz_t_lstoren (mk : mz_Mk) : mz_Lk mk mz_s_lstoren mz_k_lstoren := by
  intro X own cc F nL mo d hs ret r call go e pc L st M K n top nc ns ⟨C, O, hnL, hR, hD, hE, hC, hG⟩ hk h
  have hd := of_decide_eq_true hk
  unfold mz_s_lstoren at h
  obtain ⟨w, l, rfl, hp⟩ := mz_p1_ok h
  have h := hp
  obtain ⟨h1, h⟩ := mz_ift h
  obtain ⟨h2, h⟩ := mz_ift h
  obtain ⟨h3, h⟩ := mz_ift h
  obtain ⟨h4, h⟩ := mz_ift h
  rw [mz_f_eq] at h
  obtain ⟨g1, g2, g3⟩ := hG _ _ _ _ _ _ _ _ _ h
  exact ⟨g1, g2, mz_lstore_n C hd h1 (mz_wf_ok h2) h3 (by rw [hnL]; exact mz_bl h4) g3⟩
noncomputable def mz_s_fstore (F : Nat → Nat × Nat) (nL mo : Nat) (hs : List mz_Hr) (call : mz_Ca) (go : mz_Go) (e pc L : Nat) (st : List Nat) (M K n top nc ns : Nat) : Option mz_Rt :=
  mz_p1 st fun w l => bif Nat.beq w 7 then bif mz_b4 L (mz_ex e) then bif Nat.ble (Nat.succ (mz_ex e)) nL then mz_f (mz_p L (mz_ex e) 7) fun L2 => go (Nat.add pc 2) L2 l M K n top nc ns else none else none else none
def mz_k_fstore (own mn : String) (cc : ByteArray) (mo : Nat) (ret : Option FieldType) (e pc : Nat) : Bool := decide (decode cc pc = .ok (.fstore (mz_ex e), 2))
theorem mz_t_fstore (mk : mz_Mk) : mz_Lk mk mz_s_fstore mz_k_fstore := by
  intro X own cc F nL mo d hs ret r call go e pc L st M K n top nc ns ⟨C, O, hnL, hR, hD, hE, hC, hG⟩ hk h
  have hd := of_decide_eq_true hk
  unfold mz_s_fstore at h
  obtain ⟨w, l, rfl, hp⟩ := mz_p1_ok h
  have h := hp
  obtain ⟨h1, h⟩ := mz_ift h
  obtain ⟨h3, h⟩ := mz_ift h
  obtain ⟨h4, h⟩ := mz_ift h
  rw [mz_f_eq] at h
  obtain ⟨g1, g2, g3⟩ := hG _ _ _ _ _ _ _ _ _ h
  rw [mz_bq h1]
  exact ⟨g1, g2, mz_fstore C hd h3 (by rw [hnL]; exact mz_bl h4) g3⟩
noncomputable def mz_s_dstore (F : Nat → Nat × Nat) (nL mo : Nat) (hs : List mz_Hr) (call : mz_Ca) (go : mz_Go) (e pc L : Nat) (st : List Nat) (M K n top nc ns : Nat) : Option mz_Rt :=
  mz_p1 st fun w l => bif Nat.beq w 8 then bif mz_b4 L (mz_ex e) then bif Nat.ble (Nat.succ (Nat.succ (mz_ex e))) nL then mz_f (mz_p (mz_p L (mz_ex e) 8) (Nat.succ (mz_ex e)) 0) fun L2 => go (Nat.add pc 2) L2 l M K n top nc ns else none else none else none
def mz_k_dstore (own mn : String) (cc : ByteArray) (mo : Nat) (ret : Option FieldType) (e pc : Nat) : Bool := decide (decode cc pc = .ok (.dstore (mz_ex e), 2))
theorem mz_t_dstore (mk : mz_Mk) : mz_Lk mk mz_s_dstore mz_k_dstore := by
  intro X own cc F nL mo d hs ret r call go e pc L st M K n top nc ns ⟨C, O, hnL, hR, hD, hE, hC, hG⟩ hk h
  have hd := of_decide_eq_true hk
  unfold mz_s_dstore at h
  obtain ⟨w, l, rfl, hp⟩ := mz_p1_ok h
  have h := hp
  obtain ⟨h1, h⟩ := mz_ift h
  obtain ⟨h3, h⟩ := mz_ift h
  obtain ⟨h4, h⟩ := mz_ift h
  rw [mz_f_eq] at h
  obtain ⟨g1, g2, g3⟩ := hG _ _ _ _ _ _ _ _ _ h
  rw [mz_bq h1]
  exact ⟨g1, g2, mz_dstore C hd h3 (by rw [hnL]; exact mz_bl h4) g3⟩
end
section
/-! THE STEPS, 1 -/
noncomputable def mz_s_iinc (F : Nat → Nat × Nat) (nL mo : Nat) (hs : List mz_Hr) (call : mz_Ca) (go : mz_Go) (e pc L : Nat) (st : List Nat) (M K n top nc ns : Nat) : Option mz_Rt :=
  mz_f (mz_g L (mz_ex e)) fun v => mz_oadd v (mz_n (mz_ea e)) fun w => bif mz_wf w then bif mz_b4 L (mz_ex e) then bif Nat.ble (Nat.succ (mz_ex e)) nL then mz_f (mz_p L (mz_ex e) w) fun L2 => go (Nat.add pc 3) L2 st M K n top nc ns else none else none else none
def mz_k_iinc (own mn : String) (cc : ByteArray) (mo : Nat) (ret : Option FieldType) (e pc : Nat) : Bool := decide (decode cc pc = .ok (.iinc (mz_ex e) (mz_z (mz_ea e)), 3) ∧ Int32.ofInt (mz_z (mz_ea e)) = nI (mz_ea e))
theorem mz_t_iinc (mk : mz_Mk) : mz_Lk mk mz_s_iinc mz_k_iinc := by
  intro X own cc F nL mo d hs ret r call go e pc L st M K n top nc ns ⟨C, O, hnL, hR, hD, hE, hC, hG⟩ hk h
  have hd := of_decide_eq_true hk
  unfold mz_s_iinc at h
  rw [mz_f_eq] at h
  obtain ⟨a1, -, w, h, a2, a3⟩ := mz_oadd_ok (ρ := mz_rho X) h
  obtain ⟨h2, h⟩ := mz_ift h
  obtain ⟨h3, h⟩ := mz_ift h
  obtain ⟨h4, h⟩ := mz_ift h
  rw [mz_f_eq] at h
  obtain ⟨g1, g2, g3⟩ := hG _ _ _ _ _ _ _ _ _ h
  exact ⟨g1, g2, mz_iinc C hd.1 a1 a2 (by rw [a3, (mz_nw (ρ := mz_rho X) _).2, hd.2]) (mz_wf_ok h2) h3 (by rw [hnL]; exact mz_bl h4) g3⟩
noncomputable def mz_s_iadd (F : Nat → Nat × Nat) (nL mo : Nat) (hs : List mz_Hr) (call : mz_Ca) (go : mz_Go) (e pc L : Nat) (st : List Nat) (M K n top nc ns : Nat) : Option mz_Rt :=
  mz_p1 st fun y l => mz_p1 l fun x l => mz_oadd x y fun w => go (Nat.succ pc) L (w :: l) M K n top nc ns
def mz_k_iadd (own mn : String) (cc : ByteArray) (mo : Nat) (ret : Option FieldType) (e pc : Nat) : Bool := decide (decode cc pc = .ok (.iadd, 1))
theorem mz_t_iadd (mk : mz_Mk) : mz_Lk mk mz_s_iadd mz_k_iadd := by
  intro X own cc F nL mo d hs ret r call go e pc L st M K n top nc ns ⟨C, O, hnL, hR, hD, hE, hC, hG⟩ hk h
  have hd := of_decide_eq_true hk
  unfold mz_s_iadd at h
  obtain ⟨y, l, rfl, hp⟩ := mz_p1_ok h
  obtain ⟨x, l, rfl, hq⟩ := mz_p1_ok hp
  have h := hq
  obtain ⟨a1, a2, w, h, a3, a4⟩ := mz_oadd_ok (ρ := mz_rho X) h
  obtain ⟨g1, g2, g3⟩ := hG _ _ _ _ _ _ _ _ _ h
  exact ⟨g1, g2, mz_iadd C hd a1 a2 a3 a4 g3⟩
noncomputable def mz_s_isub (F : Nat → Nat × Nat) (nL mo : Nat) (hs : List mz_Hr) (call : mz_Ca) (go : mz_Go) (e pc L : Nat) (st : List Nat) (M K n top nc ns : Nat) : Option mz_Rt :=
  mz_p1 st fun y l => mz_p1 l fun x l => mz_osub x y fun w => go (Nat.succ pc) L (w :: l) M K n top nc ns
def mz_k_isub (own mn : String) (cc : ByteArray) (mo : Nat) (ret : Option FieldType) (e pc : Nat) : Bool := decide (decode cc pc = .ok (.isub, 1))
theorem mz_t_isub (mk : mz_Mk) : mz_Lk mk mz_s_isub mz_k_isub := by
  intro X own cc F nL mo d hs ret r call go e pc L st M K n top nc ns ⟨C, O, hnL, hR, hD, hE, hC, hG⟩ hk h
  have hd := of_decide_eq_true hk
  unfold mz_s_isub at h
  obtain ⟨y, l, rfl, hp⟩ := mz_p1_ok h
  obtain ⟨x, l, rfl, hq⟩ := mz_p1_ok hp
  have h := hq
  obtain ⟨a1, a2, w, h, a3, a4⟩ := mz_osub_ok (ρ := mz_rho X) h
  obtain ⟨g1, g2, g3⟩ := hG _ _ _ _ _ _ _ _ _ h
  exact ⟨g1, g2, mz_isub C hd a1 a2 a3 a4 g3⟩
noncomputable def mz_s_imul (F : Nat → Nat × Nat) (nL mo : Nat) (hs : List mz_Hr) (call : mz_Ca) (go : mz_Go) (e pc L : Nat) (st : List Nat) (M K n top nc ns : Nat) : Option mz_Rt :=
  mz_p1 st fun y l => mz_p1 l fun x l => mz_omul x y fun w => go (Nat.succ pc) L (w :: l) M K n top nc ns
def mz_k_imul (own mn : String) (cc : ByteArray) (mo : Nat) (ret : Option FieldType) (e pc : Nat) : Bool := decide (decode cc pc = .ok (.imul, 1))
theorem mz_t_imul (mk : mz_Mk) : mz_Lk mk mz_s_imul mz_k_imul := by
  intro X own cc F nL mo d hs ret r call go e pc L st M K n top nc ns ⟨C, O, hnL, hR, hD, hE, hC, hG⟩ hk h
  have hd := of_decide_eq_true hk
  unfold mz_s_imul at h
  obtain ⟨y, l, rfl, hp⟩ := mz_p1_ok h
  obtain ⟨x, l, rfl, hq⟩ := mz_p1_ok hp
  have h := hq
  obtain ⟨a1, a2, w, h, a3, a4⟩ := mz_omul_ok (ρ := mz_rho X) h
  obtain ⟨g1, g2, g3⟩ := hG _ _ _ _ _ _ _ _ _ h
  exact ⟨g1, g2, mz_imul C hd a1 a2 a3 a4 g3⟩
noncomputable def mz_s_iand (F : Nat → Nat × Nat) (nL mo : Nat) (hs : List mz_Hr) (call : mz_Ca) (go : mz_Go) (e pc L : Nat) (st : List Nat) (M K n top nc ns : Nat) : Option mz_Rt :=
  mz_p1 st fun y l => mz_p1 l fun x l => mz_oand F x y fun w => go (Nat.succ pc) L (w :: l) M K n top nc ns
def mz_k_iand (own mn : String) (cc : ByteArray) (mo : Nat) (ret : Option FieldType) (e pc : Nat) : Bool := decide (decode cc pc = .ok (.iand, 1))
theorem mz_t_iand (mk : mz_Mk) : mz_Lk mk mz_s_iand mz_k_iand := by
  intro X own cc F nL mo d hs ret r call go e pc L st M K n top nc ns ⟨C, O, hnL, hR, hD, hE, hC, hG⟩ hk h
  have hd := of_decide_eq_true hk
  have hF : mz_F F (mz_rho X) := mz_CF C
  have hV : mz_V (mz_rho X) := mz_CV C
  unfold mz_s_iand at h
  obtain ⟨y, l, rfl, hp⟩ := mz_p1_ok h
  obtain ⟨x, l, rfl, hq⟩ := mz_p1_ok hp
  have h := hq
  obtain ⟨a1, a2, w, h, a3, a4⟩ := mz_oand_ok hF hV h
  obtain ⟨g1, g2, g3⟩ := hG _ _ _ _ _ _ _ _ _ h
  exact ⟨g1, g2, mz_iand C hd a1 a2 a3 a4 g3⟩
noncomputable def mz_s_ior (F : Nat → Nat × Nat) (nL mo : Nat) (hs : List mz_Hr) (call : mz_Ca) (go : mz_Go) (e pc L : Nat) (st : List Nat) (M K n top nc ns : Nat) : Option mz_Rt :=
  mz_p1 st fun y l => mz_p1 l fun x l => mz_oor x y fun w => go (Nat.succ pc) L (w :: l) M K n top nc ns
def mz_k_ior (own mn : String) (cc : ByteArray) (mo : Nat) (ret : Option FieldType) (e pc : Nat) : Bool := decide (decode cc pc = .ok (.ior, 1))
theorem mz_t_ior (mk : mz_Mk) : mz_Lk mk mz_s_ior mz_k_ior := by
  intro X own cc F nL mo d hs ret r call go e pc L st M K n top nc ns ⟨C, O, hnL, hR, hD, hE, hC, hG⟩ hk h
  have hd := of_decide_eq_true hk
  unfold mz_s_ior at h
  obtain ⟨y, l, rfl, hp⟩ := mz_p1_ok h
  obtain ⟨x, l, rfl, hq⟩ := mz_p1_ok hp
  have h := hq
  obtain ⟨a1, a2, w, h, a3, a4⟩ := mz_oor_ok (ρ := mz_rho X) h
  obtain ⟨g1, g2, g3⟩ := hG _ _ _ _ _ _ _ _ _ h
  exact ⟨g1, g2, mz_ior C hd a1 a2 a3 a4 g3⟩
noncomputable def mz_s_idiv (F : Nat → Nat × Nat) (nL mo : Nat) (hs : List mz_Hr) (call : mz_Ca) (go : mz_Go) (e pc L : Nat) (st : List Nat) (M K n top nc ns : Nat) : Option mz_Rt :=
  mz_p1 st fun y l => mz_p1 l fun x l => mz_odiv x y fun w => go (Nat.succ pc) L (w :: l) M K n top nc ns
def mz_k_idiv (own mn : String) (cc : ByteArray) (mo : Nat) (ret : Option FieldType) (e pc : Nat) : Bool := decide (decode cc pc = .ok (.idiv, 1))
theorem mz_t_idiv (mk : mz_Mk) : mz_Lk mk mz_s_idiv mz_k_idiv := by
  intro X own cc F nL mo d hs ret r call go e pc L st M K n top nc ns ⟨C, O, hnL, hR, hD, hE, hC, hG⟩ hk h
  have hd := of_decide_eq_true hk
  unfold mz_s_idiv at h
  obtain ⟨y, l, rfl, hp⟩ := mz_p1_ok h
  obtain ⟨x, l, rfl, hq⟩ := mz_p1_ok hp
  have h := hq
  obtain ⟨a1, a2, a0, w, h, a3, a4⟩ := mz_odiv_ok (ρ := mz_rho X) h
  obtain ⟨g1, g2, g3⟩ := hG _ _ _ _ _ _ _ _ _ h
  exact ⟨g1, g2, mz_idiv C hd a1 a2 a0 a3 a4 g3⟩
noncomputable def mz_s_irem (F : Nat → Nat × Nat) (nL mo : Nat) (hs : List mz_Hr) (call : mz_Ca) (go : mz_Go) (e pc L : Nat) (st : List Nat) (M K n top nc ns : Nat) : Option mz_Rt :=
  mz_p1 st fun y l => mz_p1 l fun x l => mz_orem x y fun w => go (Nat.succ pc) L (w :: l) M K n top nc ns
def mz_k_irem (own mn : String) (cc : ByteArray) (mo : Nat) (ret : Option FieldType) (e pc : Nat) : Bool := decide (decode cc pc = .ok (.irem, 1))
theorem mz_t_irem (mk : mz_Mk) : mz_Lk mk mz_s_irem mz_k_irem := by
  intro X own cc F nL mo d hs ret r call go e pc L st M K n top nc ns ⟨C, O, hnL, hR, hD, hE, hC, hG⟩ hk h
  have hd := of_decide_eq_true hk
  unfold mz_s_irem at h
  obtain ⟨y, l, rfl, hp⟩ := mz_p1_ok h
  obtain ⟨x, l, rfl, hq⟩ := mz_p1_ok hp
  have h := hq
  obtain ⟨a1, a2, a0, w, h, a3, a4⟩ := mz_orem_ok (ρ := mz_rho X) h
  obtain ⟨g1, g2, g3⟩ := hG _ _ _ _ _ _ _ _ _ h
  exact ⟨g1, g2, mz_irem C hd a1 a2 a0 a3 a4 g3⟩
noncomputable def mz_s_ishl (F : Nat → Nat × Nat) (nL mo : Nat) (hs : List mz_Hr) (call : mz_Ca) (go : mz_Go) (e pc L : Nat) (st : List Nat) (M K n top nc ns : Nat) : Option mz_Rt :=
  mz_p1 st fun y l => mz_p1 l fun x l => bif mz_sm y then bif Nat.ble (Nat.succ (mz_q y)) 32 then mz_oshl x y fun w => go (Nat.succ pc) L (w :: l) M K n top nc ns else none else none
def mz_k_ishl (own mn : String) (cc : ByteArray) (mo : Nat) (ret : Option FieldType) (e pc : Nat) : Bool := decide (decode cc pc = .ok (.ishl, 1))
theorem mz_t_ishl (mk : mz_Mk) : mz_Lk mk mz_s_ishl mz_k_ishl := by
  intro X own cc F nL mo d hs ret r call go e pc L st M K n top nc ns ⟨C, O, hnL, hR, hD, hE, hC, hG⟩ hk h
  have hd := of_decide_eq_true hk
  unfold mz_s_ishl at h
  obtain ⟨y, l, rfl, hp⟩ := mz_p1_ok h
  obtain ⟨x, l, rfl, hq⟩ := mz_p1_ok hp
  have h := hq
  obtain ⟨b1, h⟩ := mz_ift h
  obtain ⟨b2, h⟩ := mz_ift h
  obtain ⟨a1, a2, w, h, a3, a4⟩ := mz_oshl_ok (ρ := mz_rho X) h
  obtain ⟨g1, g2, g3⟩ := hG _ _ _ _ _ _ _ _ _ h
  exact ⟨g1, g2, mz_ishl C hd a1 a2 (mz_31 (mz_rho X) b1 (mz_bl b2)) a3 a4 g3⟩
noncomputable def mz_s_ishr (F : Nat → Nat × Nat) (nL mo : Nat) (hs : List mz_Hr) (call : mz_Ca) (go : mz_Go) (e pc L : Nat) (st : List Nat) (M K n top nc ns : Nat) : Option mz_Rt :=
  mz_p1 st fun y l => mz_p1 l fun x l => bif mz_sm y then bif Nat.ble (Nat.succ (mz_q y)) 32 then mz_oshr x y fun w => go (Nat.succ pc) L (w :: l) M K n top nc ns else none else none
def mz_k_ishr (own mn : String) (cc : ByteArray) (mo : Nat) (ret : Option FieldType) (e pc : Nat) : Bool := decide (decode cc pc = .ok (.ishr, 1))
theorem mz_t_ishr (mk : mz_Mk) : mz_Lk mk mz_s_ishr mz_k_ishr := by
  intro X own cc F nL mo d hs ret r call go e pc L st M K n top nc ns ⟨C, O, hnL, hR, hD, hE, hC, hG⟩ hk h
  have hd := of_decide_eq_true hk
  unfold mz_s_ishr at h
  obtain ⟨y, l, rfl, hp⟩ := mz_p1_ok h
  obtain ⟨x, l, rfl, hq⟩ := mz_p1_ok hp
  have h := hq
  obtain ⟨b1, h⟩ := mz_ift h
  obtain ⟨b2, h⟩ := mz_ift h
  obtain ⟨a1, a2, w, h, a3, a4⟩ := mz_oshr_ok (ρ := mz_rho X) h
  obtain ⟨g1, g2, g3⟩ := hG _ _ _ _ _ _ _ _ _ h
  exact ⟨g1, g2, mz_ishr C hd a1 a2 (mz_31 (mz_rho X) b1 (mz_bl b2)) a3 a4 g3⟩
noncomputable def mz_s_ineg (F : Nat → Nat × Nat) (nL mo : Nat) (hs : List mz_Hr) (call : mz_Ca) (go : mz_Go) (e pc L : Nat) (st : List Nat) (M K n top nc ns : Nat) : Option mz_Rt :=
  mz_p1 st fun x l => mz_oneg x fun w => go (Nat.succ pc) L (w :: l) M K n top nc ns
def mz_k_ineg (own mn : String) (cc : ByteArray) (mo : Nat) (ret : Option FieldType) (e pc : Nat) : Bool := decide (decode cc pc = .ok (.ineg, 1))
theorem mz_t_ineg (mk : mz_Mk) : mz_Lk mk mz_s_ineg mz_k_ineg := by
  intro X own cc F nL mo d hs ret r call go e pc L st M K n top nc ns ⟨C, O, hnL, hR, hD, hE, hC, hG⟩ hk h
  have hd := of_decide_eq_true hk
  unfold mz_s_ineg at h
  obtain ⟨x, l, rfl, hp⟩ := mz_p1_ok h
  have h := hp
  obtain ⟨a1, w, h, a3, a4⟩ := mz_oneg_ok (ρ := mz_rho X) h
  obtain ⟨g1, g2, g3⟩ := hG _ _ _ _ _ _ _ _ _ h
  exact ⟨g1, g2, mz_ineg C hd a1 a3 a4 g3⟩
noncomputable def mz_s_i2c (F : Nat → Nat × Nat) (nL mo : Nat) (hs : List mz_Hr) (call : mz_Ca) (go : mz_Go) (e pc L : Nat) (st : List Nat) (M K n top nc ns : Nat) : Option mz_Rt :=
  mz_p1 st fun x l => mz_oi2c F x fun w => go (Nat.succ pc) L (w :: l) M K n top nc ns
def mz_k_i2c (own mn : String) (cc : ByteArray) (mo : Nat) (ret : Option FieldType) (e pc : Nat) : Bool := decide (decode cc pc = .ok (.i2c, 1))
theorem mz_t_i2c (mk : mz_Mk) : mz_Lk mk mz_s_i2c mz_k_i2c := by
  intro X own cc F nL mo d hs ret r call go e pc L st M K n top nc ns ⟨C, O, hnL, hR, hD, hE, hC, hG⟩ hk h
  have hd := of_decide_eq_true hk
  have hF : mz_F F (mz_rho X) := mz_CF C
  have hV : mz_V (mz_rho X) := mz_CV C
  unfold mz_s_i2c at h
  obtain ⟨x, l, rfl, hp⟩ := mz_p1_ok h
  have h := hp
  obtain ⟨a1, w, h, a3, a4⟩ := mz_oi2c_ok hF hV h
  obtain ⟨g1, g2, g3⟩ := hG _ _ _ _ _ _ _ _ _ h
  exact ⟨g1, g2, mz_i2c_ C hd a1 a3 a4 g3⟩
noncomputable def mz_s_i2b (F : Nat → Nat × Nat) (nL mo : Nat) (hs : List mz_Hr) (call : mz_Ca) (go : mz_Go) (e pc L : Nat) (st : List Nat) (M K n top nc ns : Nat) : Option mz_Rt :=
  mz_p1 st fun x l => mz_oi2b F x fun w => go (Nat.succ pc) L (w :: l) M K n top nc ns
def mz_k_i2b (own mn : String) (cc : ByteArray) (mo : Nat) (ret : Option FieldType) (e pc : Nat) : Bool := decide (decode cc pc = .ok (.i2b, 1))
theorem mz_t_i2b (mk : mz_Mk) : mz_Lk mk mz_s_i2b mz_k_i2b := by
  intro X own cc F nL mo d hs ret r call go e pc L st M K n top nc ns ⟨C, O, hnL, hR, hD, hE, hC, hG⟩ hk h
  have hd := of_decide_eq_true hk
  have hF : mz_F F (mz_rho X) := mz_CF C
  unfold mz_s_i2b at h
  obtain ⟨x, l, rfl, hp⟩ := mz_p1_ok h
  have h := hp
  obtain ⟨a1, w, h, a3, a4⟩ := mz_oi2b_ok hF h
  obtain ⟨g1, g2, g3⟩ := hG _ _ _ _ _ _ _ _ _ h
  exact ⟨g1, g2, mz_i2b_ C hd a1 a3 a4 g3⟩
noncomputable def mz_s_i2l (F : Nat → Nat × Nat) (nL mo : Nat) (hs : List mz_Hr) (call : mz_Ca) (go : mz_Go) (e pc L : Nat) (st : List Nat) (M K n top nc ns : Nat) : Option mz_Rt :=
  mz_p1 st fun x l => mz_oi2l x fun w => go (Nat.succ pc) L (w :: l) M K n top nc ns
def mz_k_i2l (own mn : String) (cc : ByteArray) (mo : Nat) (ret : Option FieldType) (e pc : Nat) : Bool := decide (decode cc pc = .ok (.i2l, 1))
theorem mz_t_i2l (mk : mz_Mk) : mz_Lk mk mz_s_i2l mz_k_i2l := by
  intro X own cc F nL mo d hs ret r call go e pc L st M K n top nc ns ⟨C, O, hnL, hR, hD, hE, hC, hG⟩ hk h
  have hd := of_decide_eq_true hk
  unfold mz_s_i2l at h
  obtain ⟨x, l, rfl, hp⟩ := mz_p1_ok h
  have h := hp
  obtain ⟨a1, w, h, a3, a4⟩ := mz_oi2l_ok (ρ := mz_rho X) h
  obtain ⟨g1, g2, g3⟩ := hG _ _ _ _ _ _ _ _ _ h
  exact ⟨g1, g2, mz_i2l_ C hd a1 a3 a4 g3⟩
noncomputable def mz_s_ladd (F : Nat → Nat × Nat) (nL mo : Nat) (hs : List mz_Hr) (call : mz_Ca) (go : mz_Go) (e pc L : Nat) (st : List Nat) (M K n top nc ns : Nat) : Option mz_Rt :=
  mz_p1 st fun y l => mz_p1 l fun x l => mz_oladd x y fun w => go (Nat.succ pc) L (w :: l) M K n top nc ns
def mz_k_ladd (own mn : String) (cc : ByteArray) (mo : Nat) (ret : Option FieldType) (e pc : Nat) : Bool := decide (decode cc pc = .ok (.ladd, 1))
theorem mz_t_ladd (mk : mz_Mk) : mz_Lk mk mz_s_ladd mz_k_ladd := by
  intro X own cc F nL mo d hs ret r call go e pc L st M K n top nc ns ⟨C, O, hnL, hR, hD, hE, hC, hG⟩ hk h
  have hd := of_decide_eq_true hk
  unfold mz_s_ladd at h
  obtain ⟨y, l, rfl, hp⟩ := mz_p1_ok h
  obtain ⟨x, l, rfl, hq⟩ := mz_p1_ok hp
  have h := hq
  obtain ⟨a1, a2, w, h, a3, a4⟩ := mz_oladd_ok (ρ := mz_rho X) h
  obtain ⟨g1, g2, g3⟩ := hG _ _ _ _ _ _ _ _ _ h
  exact ⟨g1, g2, mz_ladd_ C hd a1 a2 a3 a4 g3⟩
noncomputable def mz_s_lcmp (F : Nat → Nat × Nat) (nL mo : Nat) (hs : List mz_Hr) (call : mz_Ca) (go : mz_Go) (e pc L : Nat) (st : List Nat) (M K n top nc ns : Nat) : Option mz_Rt :=
  mz_p1 st fun y l => mz_p1 l fun x l => bif Nat.beq x y then bif mz_L x then go (Nat.succ pc) L (1 :: l) M K n top nc ns else none else none
def mz_k_lcmp (own mn : String) (cc : ByteArray) (mo : Nat) (ret : Option FieldType) (e pc : Nat) : Bool := decide (decode cc pc = .ok (.lcmp, 1))
theorem mz_t_lcmp (mk : mz_Mk) : mz_Lk mk mz_s_lcmp mz_k_lcmp := by
  intro X own cc F nL mo d hs ret r call go e pc L st M K n top nc ns ⟨C, O, hnL, hR, hD, hE, hC, hG⟩ hk h
  have hd := of_decide_eq_true hk
  unfold mz_s_lcmp at h
  obtain ⟨y, l, rfl, hp⟩ := mz_p1_ok h
  obtain ⟨x, l, rfl, hq⟩ := mz_p1_ok hp
  have h := hq
  obtain ⟨a1, h⟩ := mz_ift h
  obtain ⟨a2, h⟩ := mz_ift h
  obtain ⟨g1, g2, g3⟩ := hG _ _ _ _ _ _ _ _ _ h
  rw [← mz_bq a1]
  exact ⟨g1, g2, mz_lcmp_ C hd a2 g3⟩
noncomputable def mz_s_icmp_eq (F : Nat → Nat × Nat) (nL mo : Nat) (hs : List mz_Hr) (call : mz_Ca) (go : mz_Go) (e pc L : Nat) (st : List Nat) (M K n top nc ns : Nat) : Option mz_Rt :=
  mz_p1 st fun y l => mz_p1 l fun x l => mz_cmp F .eq x y fun b => go (bif b then mz_ex e else Nat.add pc 3) L l M K n top nc ns
def mz_k_icmp_eq (own mn : String) (cc : ByteArray) (mo : Nat) (ret : Option FieldType) (e pc : Nat) : Bool := decide (decode cc pc = .ok (.if_icmp .eq (Int.ofNat (mz_ex e) - Int.ofNat pc), 3))
theorem mz_t_icmp_eq (mk : mz_Mk) : mz_Lk mk mz_s_icmp_eq mz_k_icmp_eq := by
  intro X own cc F nL mo d hs ret r call go e pc L st M K n top nc ns ⟨C, O, hnL, hR, hD, hE, hC, hG⟩ hk h
  have hd := of_decide_eq_true hk
  have hF : mz_F F (mz_rho X) := mz_CF C
  unfold mz_s_icmp_eq at h
  obtain ⟨y, l, rfl, hp⟩ := mz_p1_ok h
  obtain ⟨x, l, rfl, hq⟩ := mz_p1_ok hp
  have h := hq
  obtain ⟨a1, a2, b, h, a3⟩ := mz_cmp_ok hF h
  obtain ⟨g1, g2, g3⟩ := hG _ _ _ _ _ _ _ _ _ h
  exact ⟨g1, g2, mz_icmp C hd (mz_off _ _) a1 a2 a3 g3⟩
noncomputable def mz_s_ifc_eq (F : Nat → Nat × Nat) (nL mo : Nat) (hs : List mz_Hr) (call : mz_Ca) (go : mz_Go) (e pc L : Nat) (st : List Nat) (M K n top nc ns : Nat) : Option mz_Rt :=
  mz_p1 st fun x l => mz_cmp F .eq x 1 fun b => go (bif b then mz_ex e else Nat.add pc 3) L l M K n top nc ns
def mz_k_ifc_eq (own mn : String) (cc : ByteArray) (mo : Nat) (ret : Option FieldType) (e pc : Nat) : Bool := decide (decode cc pc = .ok (.ifCond .eq (Int.ofNat (mz_ex e) - Int.ofNat pc), 3))
theorem mz_t_ifc_eq (mk : mz_Mk) : mz_Lk mk mz_s_ifc_eq mz_k_ifc_eq := by
  intro X own cc F nL mo d hs ret r call go e pc L st M K n top nc ns ⟨C, O, hnL, hR, hD, hE, hC, hG⟩ hk h
  have hd := of_decide_eq_true hk
  have hF : mz_F F (mz_rho X) := mz_CF C
  unfold mz_s_ifc_eq at h
  obtain ⟨x, l, rfl, hp⟩ := mz_p1_ok h
  have h := hp
  obtain ⟨a1, a2, b, h, a3⟩ := mz_cmp_ok hF h
  obtain ⟨g1, g2, g3⟩ := hG _ _ _ _ _ _ _ _ _ h
  exact ⟨g1, g2, mz_ifc C hd (mz_off _ _) a1 a3 g3⟩
noncomputable def mz_s_icmp_ne (F : Nat → Nat × Nat) (nL mo : Nat) (hs : List mz_Hr) (call : mz_Ca) (go : mz_Go) (e pc L : Nat) (st : List Nat) (M K n top nc ns : Nat) : Option mz_Rt :=
  mz_p1 st fun y l => mz_p1 l fun x l => mz_cmp F .ne x y fun b => go (bif b then mz_ex e else Nat.add pc 3) L l M K n top nc ns
def mz_k_icmp_ne (own mn : String) (cc : ByteArray) (mo : Nat) (ret : Option FieldType) (e pc : Nat) : Bool := decide (decode cc pc = .ok (.if_icmp .ne (Int.ofNat (mz_ex e) - Int.ofNat pc), 3))
theorem mz_t_icmp_ne (mk : mz_Mk) : mz_Lk mk mz_s_icmp_ne mz_k_icmp_ne := by
  intro X own cc F nL mo d hs ret r call go e pc L st M K n top nc ns ⟨C, O, hnL, hR, hD, hE, hC, hG⟩ hk h
  have hd := of_decide_eq_true hk
  have hF : mz_F F (mz_rho X) := mz_CF C
  unfold mz_s_icmp_ne at h
  obtain ⟨y, l, rfl, hp⟩ := mz_p1_ok h
  obtain ⟨x, l, rfl, hq⟩ := mz_p1_ok hp
  have h := hq
  obtain ⟨a1, a2, b, h, a3⟩ := mz_cmp_ok hF h
  obtain ⟨g1, g2, g3⟩ := hG _ _ _ _ _ _ _ _ _ h
  exact ⟨g1, g2, mz_icmp C hd (mz_off _ _) a1 a2 a3 g3⟩
noncomputable def mz_s_ifc_ne (F : Nat → Nat × Nat) (nL mo : Nat) (hs : List mz_Hr) (call : mz_Ca) (go : mz_Go) (e pc L : Nat) (st : List Nat) (M K n top nc ns : Nat) : Option mz_Rt :=
  mz_p1 st fun x l => mz_cmp F .ne x 1 fun b => go (bif b then mz_ex e else Nat.add pc 3) L l M K n top nc ns
def mz_k_ifc_ne (own mn : String) (cc : ByteArray) (mo : Nat) (ret : Option FieldType) (e pc : Nat) : Bool := decide (decode cc pc = .ok (.ifCond .ne (Int.ofNat (mz_ex e) - Int.ofNat pc), 3))
theorem mz_t_ifc_ne (mk : mz_Mk) : mz_Lk mk mz_s_ifc_ne mz_k_ifc_ne := by
  intro X own cc F nL mo d hs ret r call go e pc L st M K n top nc ns ⟨C, O, hnL, hR, hD, hE, hC, hG⟩ hk h
  have hd := of_decide_eq_true hk
  have hF : mz_F F (mz_rho X) := mz_CF C
  unfold mz_s_ifc_ne at h
  obtain ⟨x, l, rfl, hp⟩ := mz_p1_ok h
  have h := hp
  obtain ⟨a1, a2, b, h, a3⟩ := mz_cmp_ok hF h
  obtain ⟨g1, g2, g3⟩ := hG _ _ _ _ _ _ _ _ _ h
  exact ⟨g1, g2, mz_ifc C hd (mz_off _ _) a1 a3 g3⟩
noncomputable def mz_s_icmp_lt (F : Nat → Nat × Nat) (nL mo : Nat) (hs : List mz_Hr) (call : mz_Ca) (go : mz_Go) (e pc L : Nat) (st : List Nat) (M K n top nc ns : Nat) : Option mz_Rt :=
  mz_p1 st fun y l => mz_p1 l fun x l => mz_cmp F .lt x y fun b => go (bif b then mz_ex e else Nat.add pc 3) L l M K n top nc ns
def mz_k_icmp_lt (own mn : String) (cc : ByteArray) (mo : Nat) (ret : Option FieldType) (e pc : Nat) : Bool := decide (decode cc pc = .ok (.if_icmp .lt (Int.ofNat (mz_ex e) - Int.ofNat pc), 3))
theorem mz_t_icmp_lt (mk : mz_Mk) : mz_Lk mk mz_s_icmp_lt mz_k_icmp_lt := by
  intro X own cc F nL mo d hs ret r call go e pc L st M K n top nc ns ⟨C, O, hnL, hR, hD, hE, hC, hG⟩ hk h
  have hd := of_decide_eq_true hk
  have hF : mz_F F (mz_rho X) := mz_CF C
  unfold mz_s_icmp_lt at h
  obtain ⟨y, l, rfl, hp⟩ := mz_p1_ok h
  obtain ⟨x, l, rfl, hq⟩ := mz_p1_ok hp
  have h := hq
  obtain ⟨a1, a2, b, h, a3⟩ := mz_cmp_ok hF h
  obtain ⟨g1, g2, g3⟩ := hG _ _ _ _ _ _ _ _ _ h
  exact ⟨g1, g2, mz_icmp C hd (mz_off _ _) a1 a2 a3 g3⟩
noncomputable def mz_s_ifc_lt (F : Nat → Nat × Nat) (nL mo : Nat) (hs : List mz_Hr) (call : mz_Ca) (go : mz_Go) (e pc L : Nat) (st : List Nat) (M K n top nc ns : Nat) : Option mz_Rt :=
  mz_p1 st fun x l => mz_cmp F .lt x 1 fun b => go (bif b then mz_ex e else Nat.add pc 3) L l M K n top nc ns
def mz_k_ifc_lt (own mn : String) (cc : ByteArray) (mo : Nat) (ret : Option FieldType) (e pc : Nat) : Bool := decide (decode cc pc = .ok (.ifCond .lt (Int.ofNat (mz_ex e) - Int.ofNat pc), 3))
theorem mz_t_ifc_lt (mk : mz_Mk) : mz_Lk mk mz_s_ifc_lt mz_k_ifc_lt := by
  intro X own cc F nL mo d hs ret r call go e pc L st M K n top nc ns ⟨C, O, hnL, hR, hD, hE, hC, hG⟩ hk h
  have hd := of_decide_eq_true hk
  have hF : mz_F F (mz_rho X) := mz_CF C
  unfold mz_s_ifc_lt at h
  obtain ⟨x, l, rfl, hp⟩ := mz_p1_ok h
  have h := hp
  obtain ⟨a1, a2, b, h, a3⟩ := mz_cmp_ok hF h
  obtain ⟨g1, g2, g3⟩ := hG _ _ _ _ _ _ _ _ _ h
  exact ⟨g1, g2, mz_ifc C hd (mz_off _ _) a1 a3 g3⟩
end
section
/-! THE STEPS, 2 -/
noncomputable def mz_s_icmp_ge (F : Nat → Nat × Nat) (nL mo : Nat) (hs : List mz_Hr) (call : mz_Ca) (go : mz_Go) (e pc L : Nat) (st : List Nat) (M K n top nc ns : Nat) : Option mz_Rt :=
  mz_p1 st fun y l => mz_p1 l fun x l => mz_cmp F .ge x y fun b => go (bif b then mz_ex e else Nat.add pc 3) L l M K n top nc ns
def mz_k_icmp_ge (own mn : String) (cc : ByteArray) (mo : Nat) (ret : Option FieldType) (e pc : Nat) : Bool := decide (decode cc pc = .ok (.if_icmp .ge (Int.ofNat (mz_ex e) - Int.ofNat pc), 3))
theorem mz_t_icmp_ge (mk : mz_Mk) : mz_Lk mk mz_s_icmp_ge mz_k_icmp_ge := by
  intro X own cc F nL mo d hs ret r call go e pc L st M K n top nc ns ⟨C, O, hnL, hR, hD, hE, hC, hG⟩ hk h
  have hd := of_decide_eq_true hk
  have hF : mz_F F (mz_rho X) := mz_CF C
  unfold mz_s_icmp_ge at h
  obtain ⟨y, l, rfl, hp⟩ := mz_p1_ok h
  obtain ⟨x, l, rfl, hq⟩ := mz_p1_ok hp
  have h := hq
  obtain ⟨a1, a2, b, h, a3⟩ := mz_cmp_ok hF h
  obtain ⟨g1, g2, g3⟩ := hG _ _ _ _ _ _ _ _ _ h
  exact ⟨g1, g2, mz_icmp C hd (mz_off _ _) a1 a2 a3 g3⟩
noncomputable def mz_s_ifc_ge (F : Nat → Nat × Nat) (nL mo : Nat) (hs : List mz_Hr) (call : mz_Ca) (go : mz_Go) (e pc L : Nat) (st : List Nat) (M K n top nc ns : Nat) : Option mz_Rt :=
  mz_p1 st fun x l => mz_cmp F .ge x 1 fun b => go (bif b then mz_ex e else Nat.add pc 3) L l M K n top nc ns
def mz_k_ifc_ge (own mn : String) (cc : ByteArray) (mo : Nat) (ret : Option FieldType) (e pc : Nat) : Bool := decide (decode cc pc = .ok (.ifCond .ge (Int.ofNat (mz_ex e) - Int.ofNat pc), 3))
theorem mz_t_ifc_ge (mk : mz_Mk) : mz_Lk mk mz_s_ifc_ge mz_k_ifc_ge := by
  intro X own cc F nL mo d hs ret r call go e pc L st M K n top nc ns ⟨C, O, hnL, hR, hD, hE, hC, hG⟩ hk h
  have hd := of_decide_eq_true hk
  have hF : mz_F F (mz_rho X) := mz_CF C
  unfold mz_s_ifc_ge at h
  obtain ⟨x, l, rfl, hp⟩ := mz_p1_ok h
  have h := hp
  obtain ⟨a1, a2, b, h, a3⟩ := mz_cmp_ok hF h
  obtain ⟨g1, g2, g3⟩ := hG _ _ _ _ _ _ _ _ _ h
  exact ⟨g1, g2, mz_ifc C hd (mz_off _ _) a1 a3 g3⟩
noncomputable def mz_s_icmp_gt (F : Nat → Nat × Nat) (nL mo : Nat) (hs : List mz_Hr) (call : mz_Ca) (go : mz_Go) (e pc L : Nat) (st : List Nat) (M K n top nc ns : Nat) : Option mz_Rt :=
  mz_p1 st fun y l => mz_p1 l fun x l => mz_cmp F .gt x y fun b => go (bif b then mz_ex e else Nat.add pc 3) L l M K n top nc ns
def mz_k_icmp_gt (own mn : String) (cc : ByteArray) (mo : Nat) (ret : Option FieldType) (e pc : Nat) : Bool := decide (decode cc pc = .ok (.if_icmp .gt (Int.ofNat (mz_ex e) - Int.ofNat pc), 3))
theorem mz_t_icmp_gt (mk : mz_Mk) : mz_Lk mk mz_s_icmp_gt mz_k_icmp_gt := by
  intro X own cc F nL mo d hs ret r call go e pc L st M K n top nc ns ⟨C, O, hnL, hR, hD, hE, hC, hG⟩ hk h
  have hd := of_decide_eq_true hk
  have hF : mz_F F (mz_rho X) := mz_CF C
  unfold mz_s_icmp_gt at h
  obtain ⟨y, l, rfl, hp⟩ := mz_p1_ok h
  obtain ⟨x, l, rfl, hq⟩ := mz_p1_ok hp
  have h := hq
  obtain ⟨a1, a2, b, h, a3⟩ := mz_cmp_ok hF h
  obtain ⟨g1, g2, g3⟩ := hG _ _ _ _ _ _ _ _ _ h
  exact ⟨g1, g2, mz_icmp C hd (mz_off _ _) a1 a2 a3 g3⟩
noncomputable def mz_s_ifc_gt (F : Nat → Nat × Nat) (nL mo : Nat) (hs : List mz_Hr) (call : mz_Ca) (go : mz_Go) (e pc L : Nat) (st : List Nat) (M K n top nc ns : Nat) : Option mz_Rt :=
  mz_p1 st fun x l => mz_cmp F .gt x 1 fun b => go (bif b then mz_ex e else Nat.add pc 3) L l M K n top nc ns
def mz_k_ifc_gt (own mn : String) (cc : ByteArray) (mo : Nat) (ret : Option FieldType) (e pc : Nat) : Bool := decide (decode cc pc = .ok (.ifCond .gt (Int.ofNat (mz_ex e) - Int.ofNat pc), 3))
theorem mz_t_ifc_gt (mk : mz_Mk) : mz_Lk mk mz_s_ifc_gt mz_k_ifc_gt := by
  intro X own cc F nL mo d hs ret r call go e pc L st M K n top nc ns ⟨C, O, hnL, hR, hD, hE, hC, hG⟩ hk h
  have hd := of_decide_eq_true hk
  have hF : mz_F F (mz_rho X) := mz_CF C
  unfold mz_s_ifc_gt at h
  obtain ⟨x, l, rfl, hp⟩ := mz_p1_ok h
  have h := hp
  obtain ⟨a1, a2, b, h, a3⟩ := mz_cmp_ok hF h
  obtain ⟨g1, g2, g3⟩ := hG _ _ _ _ _ _ _ _ _ h
  exact ⟨g1, g2, mz_ifc C hd (mz_off _ _) a1 a3 g3⟩
noncomputable def mz_s_icmp_le (F : Nat → Nat × Nat) (nL mo : Nat) (hs : List mz_Hr) (call : mz_Ca) (go : mz_Go) (e pc L : Nat) (st : List Nat) (M K n top nc ns : Nat) : Option mz_Rt :=
  mz_p1 st fun y l => mz_p1 l fun x l => mz_cmp F .le x y fun b => go (bif b then mz_ex e else Nat.add pc 3) L l M K n top nc ns
def mz_k_icmp_le (own mn : String) (cc : ByteArray) (mo : Nat) (ret : Option FieldType) (e pc : Nat) : Bool := decide (decode cc pc = .ok (.if_icmp .le (Int.ofNat (mz_ex e) - Int.ofNat pc), 3))
theorem mz_t_icmp_le (mk : mz_Mk) : mz_Lk mk mz_s_icmp_le mz_k_icmp_le := by
  intro X own cc F nL mo d hs ret r call go e pc L st M K n top nc ns ⟨C, O, hnL, hR, hD, hE, hC, hG⟩ hk h
  have hd := of_decide_eq_true hk
  have hF : mz_F F (mz_rho X) := mz_CF C
  unfold mz_s_icmp_le at h
  obtain ⟨y, l, rfl, hp⟩ := mz_p1_ok h
  obtain ⟨x, l, rfl, hq⟩ := mz_p1_ok hp
  have h := hq
  obtain ⟨a1, a2, b, h, a3⟩ := mz_cmp_ok hF h
  obtain ⟨g1, g2, g3⟩ := hG _ _ _ _ _ _ _ _ _ h
  exact ⟨g1, g2, mz_icmp C hd (mz_off _ _) a1 a2 a3 g3⟩
noncomputable def mz_s_ifc_le (F : Nat → Nat × Nat) (nL mo : Nat) (hs : List mz_Hr) (call : mz_Ca) (go : mz_Go) (e pc L : Nat) (st : List Nat) (M K n top nc ns : Nat) : Option mz_Rt :=
  mz_p1 st fun x l => mz_cmp F .le x 1 fun b => go (bif b then mz_ex e else Nat.add pc 3) L l M K n top nc ns
def mz_k_ifc_le (own mn : String) (cc : ByteArray) (mo : Nat) (ret : Option FieldType) (e pc : Nat) : Bool := decide (decode cc pc = .ok (.ifCond .le (Int.ofNat (mz_ex e) - Int.ofNat pc), 3))
theorem mz_t_ifc_le (mk : mz_Mk) : mz_Lk mk mz_s_ifc_le mz_k_ifc_le := by
  intro X own cc F nL mo d hs ret r call go e pc L st M K n top nc ns ⟨C, O, hnL, hR, hD, hE, hC, hG⟩ hk h
  have hd := of_decide_eq_true hk
  have hF : mz_F F (mz_rho X) := mz_CF C
  unfold mz_s_ifc_le at h
  obtain ⟨x, l, rfl, hp⟩ := mz_p1_ok h
  have h := hp
  obtain ⟨a1, a2, b, h, a3⟩ := mz_cmp_ok hF h
  obtain ⟨g1, g2, g3⟩ := hG _ _ _ _ _ _ _ _ _ h
  exact ⟨g1, g2, mz_ifc C hd (mz_off _ _) a1 a3 g3⟩
noncomputable def mz_s_goto (F : Nat → Nat × Nat) (nL mo : Nat) (hs : List mz_Hr) (call : mz_Ca) (go : mz_Go) (e pc L : Nat) (st : List Nat) (M K n top nc ns : Nat) : Option mz_Rt :=
  go (mz_ex e) L st M K n top nc ns
def mz_k_goto (own mn : String) (cc : ByteArray) (mo : Nat) (ret : Option FieldType) (e pc : Nat) : Bool := decide (decode cc pc = .ok (.goto (Int.ofNat (mz_ex e) - Int.ofNat pc), 3))
theorem mz_t_goto (mk : mz_Mk) : mz_Lk mk mz_s_goto mz_k_goto := by
  intro X own cc F nL mo d hs ret r call go e pc L st M K n top nc ns ⟨C, O, hnL, hR, hD, hE, hC, hG⟩ hk h
  have hd := of_decide_eq_true hk
  unfold mz_s_goto at h
  obtain ⟨g1, g2, g3⟩ := hG _ _ _ _ _ _ _ _ _ h
  exact ⟨g1, g2, mz_goto C hd (mz_off _ _) g3⟩
noncomputable def mz_s_ifnull (F : Nat → Nat × Nat) (nL mo : Nat) (hs : List mz_Hr) (call : mz_Ca) (go : mz_Go) (e pc L : Nat) (st : List Nat) (M K n top nc ns : Nat) : Option mz_Rt :=
  mz_p1 st fun x l => bif mz_R x then go (bif Nat.beq (mz_q x) 0 then mz_ex e else Nat.add pc 3) L l M K n top nc ns else none
def mz_k_ifnull (own mn : String) (cc : ByteArray) (mo : Nat) (ret : Option FieldType) (e pc : Nat) : Bool := decide (decode cc pc = .ok (.ifnull (Int.ofNat (mz_ex e) - Int.ofNat pc), 3))
theorem mz_t_ifnull (mk : mz_Mk) : mz_Lk mk mz_s_ifnull mz_k_ifnull := by
  intro X own cc F nL mo d hs ret r call go e pc L st M K n top nc ns ⟨C, O, hnL, hR, hD, hE, hC, hG⟩ hk h
  have hd := of_decide_eq_true hk
  unfold mz_s_ifnull at h
  obtain ⟨x, l, rfl, hp⟩ := mz_p1_ok h
  have h := hp
  obtain ⟨a1, h⟩ := mz_ift h
  obtain ⟨g1, g2, g3⟩ := hG _ _ _ _ _ _ _ _ _ h
  exact ⟨g1, g2, mz_ifnull C hd (mz_off _ _) a1 g3⟩
noncomputable def mz_s_ifnonnull (F : Nat → Nat × Nat) (nL mo : Nat) (hs : List mz_Hr) (call : mz_Ca) (go : mz_Go) (e pc L : Nat) (st : List Nat) (M K n top nc ns : Nat) : Option mz_Rt :=
  mz_p1 st fun x l => bif mz_R x then go (bif Nat.beq (mz_q x) 0 then Nat.add pc 3 else mz_ex e) L l M K n top nc ns else none
def mz_k_ifnonnull (own mn : String) (cc : ByteArray) (mo : Nat) (ret : Option FieldType) (e pc : Nat) : Bool := decide (decode cc pc = .ok (.ifnonnull (Int.ofNat (mz_ex e) - Int.ofNat pc), 3))
theorem mz_t_ifnonnull (mk : mz_Mk) : mz_Lk mk mz_s_ifnonnull mz_k_ifnonnull := by
  intro X own cc F nL mo d hs ret r call go e pc L st M K n top nc ns ⟨C, O, hnL, hR, hD, hE, hC, hG⟩ hk h
  have hd := of_decide_eq_true hk
  unfold mz_s_ifnonnull at h
  obtain ⟨x, l, rfl, hp⟩ := mz_p1_ok h
  have h := hp
  obtain ⟨a1, h⟩ := mz_ift h
  obtain ⟨g1, g2, g3⟩ := hG _ _ _ _ _ _ _ _ _ h
  exact ⟨g1, g2, mz_ifnonnull C hd (mz_off _ _) a1 g3⟩
noncomputable def mz_s_acmp_eq (F : Nat → Nat × Nat) (nL mo : Nat) (hs : List mz_Hr) (call : mz_Ca) (go : mz_Go) (e pc L : Nat) (st : List Nat) (M K n top nc ns : Nat) : Option mz_Rt :=
  mz_p1 st fun y l => mz_p1 l fun x l => mz_same n x y fun b => go (bif b then mz_ex e else Nat.add pc 3) L l M K n top nc ns
def mz_k_acmp_eq (own mn : String) (cc : ByteArray) (mo : Nat) (ret : Option FieldType) (e pc : Nat) : Bool := decide (decode cc pc = .ok (.if_acmp .eq (Int.ofNat (mz_ex e) - Int.ofNat pc), 3))
theorem mz_t_acmp_eq (mk : mz_Mk) : mz_Lk mk mz_s_acmp_eq mz_k_acmp_eq := by
  intro X own cc F nL mo d hs ret r call go e pc L st M K n top nc ns ⟨C, O, hnL, hR, hD, hE, hC, hG⟩ hk h
  have hd := of_decide_eq_true hk
  unfold mz_s_acmp_eq at h
  obtain ⟨y, l, rfl, hp⟩ := mz_p1_ok h
  obtain ⟨x, l, rfl, hq⟩ := mz_p1_ok hp
  have h := hq
  obtain ⟨a1, a2, b, h, a3⟩ := mz_same_ok h
  obtain ⟨g1, g2, g3⟩ := hG _ _ _ _ _ _ _ _ _ h
  exact ⟨g1, g2, mz_acmp (b := b) C hd (mz_off _ _) a1 a2 a3 g3⟩
noncomputable def mz_s_acmp_ne (F : Nat → Nat × Nat) (nL mo : Nat) (hs : List mz_Hr) (call : mz_Ca) (go : mz_Go) (e pc L : Nat) (st : List Nat) (M K n top nc ns : Nat) : Option mz_Rt :=
  mz_p1 st fun y l => mz_p1 l fun x l => mz_same n x y fun b => go (bif b then Nat.add pc 3 else mz_ex e) L l M K n top nc ns
def mz_k_acmp_ne (own mn : String) (cc : ByteArray) (mo : Nat) (ret : Option FieldType) (e pc : Nat) : Bool := decide (decode cc pc = .ok (.if_acmp .ne (Int.ofNat (mz_ex e) - Int.ofNat pc), 3))
theorem mz_t_acmp_ne (mk : mz_Mk) : mz_Lk mk mz_s_acmp_ne mz_k_acmp_ne := by
  intro X own cc F nL mo d hs ret r call go e pc L st M K n top nc ns ⟨C, O, hnL, hR, hD, hE, hC, hG⟩ hk h
  have hd := of_decide_eq_true hk
  unfold mz_s_acmp_ne at h
  obtain ⟨y, l, rfl, hp⟩ := mz_p1_ok h
  obtain ⟨x, l, rfl, hq⟩ := mz_p1_ok hp
  have h := hq
  obtain ⟨a1, a2, b, h, a3⟩ := mz_same_ok h
  obtain ⟨g1, g2, g3⟩ := hG _ _ _ _ _ _ _ _ _ h
  exact ⟨g1, g2, mz_acmp (b := b) C hd (mz_off _ _) a1 a2 a3 g3⟩
noncomputable def mz_s_dup (F : Nat → Nat × Nat) (nL mo : Nat) (hs : List mz_Hr) (call : mz_Ca) (go : mz_Go) (e pc L : Nat) (st : List Nat) (M K n top nc ns : Nat) : Option mz_Rt :=
  mz_p1 st fun x l => bif mz_c2 x then none else go (Nat.succ pc) L (x :: x :: l) M K n top nc ns
def mz_k_dup (own mn : String) (cc : ByteArray) (mo : Nat) (ret : Option FieldType) (e pc : Nat) : Bool := decide (decode cc pc = .ok (.dup, 1))
theorem mz_t_dup (mk : mz_Mk) : mz_Lk mk mz_s_dup mz_k_dup := by
  intro X own cc F nL mo d hs ret r call go e pc L st M K n top nc ns ⟨C, O, hnL, hR, hD, hE, hC, hG⟩ hk h
  have hd := of_decide_eq_true hk
  unfold mz_s_dup at h
  obtain ⟨x, l, rfl, hp⟩ := mz_p1_ok h
  have h := hp
  obtain ⟨a1, h⟩ := mz_iff h
  obtain ⟨g1, g2, g3⟩ := hG _ _ _ _ _ _ _ _ _ h
  exact ⟨g1, g2, mz_dup C hd a1 g3⟩
noncomputable def mz_s_pop (F : Nat → Nat × Nat) (nL mo : Nat) (hs : List mz_Hr) (call : mz_Ca) (go : mz_Go) (e pc L : Nat) (st : List Nat) (M K n top nc ns : Nat) : Option mz_Rt :=
  mz_p1 st fun x l => bif mz_c2 x then none else go (Nat.succ pc) L l M K n top nc ns
def mz_k_pop (own mn : String) (cc : ByteArray) (mo : Nat) (ret : Option FieldType) (e pc : Nat) : Bool := decide (decode cc pc = .ok (.pop, 1))
theorem mz_t_pop (mk : mz_Mk) : mz_Lk mk mz_s_pop mz_k_pop := by
  intro X own cc F nL mo d hs ret r call go e pc L st M K n top nc ns ⟨C, O, hnL, hR, hD, hE, hC, hG⟩ hk h
  have hd := of_decide_eq_true hk
  unfold mz_s_pop at h
  obtain ⟨x, l, rfl, hp⟩ := mz_p1_ok h
  have h := hp
  obtain ⟨a1, h⟩ := mz_iff h
  obtain ⟨g1, g2, g3⟩ := hG _ _ _ _ _ _ _ _ _ h
  exact ⟨g1, g2, mz_pop C hd a1 g3⟩
noncomputable def mz_s_dup_x1 (F : Nat → Nat × Nat) (nL mo : Nat) (hs : List mz_Hr) (call : mz_Ca) (go : mz_Go) (e pc L : Nat) (st : List Nat) (M K n top nc ns : Nat) : Option mz_Rt :=
  mz_p1 st fun x l => mz_p1 l fun y l => bif mz_c2 x then none else bif mz_c2 y then none else go (Nat.succ pc) L (x :: y :: x :: l) M K n top nc ns
def mz_k_dup_x1 (own mn : String) (cc : ByteArray) (mo : Nat) (ret : Option FieldType) (e pc : Nat) : Bool := decide (decode cc pc = .ok (.dup_x1, 1))
theorem mz_t_dup_x1 (mk : mz_Mk) : mz_Lk mk mz_s_dup_x1 mz_k_dup_x1 := by
  intro X own cc F nL mo d hs ret r call go e pc L st M K n top nc ns ⟨C, O, hnL, hR, hD, hE, hC, hG⟩ hk h
  have hd := of_decide_eq_true hk
  unfold mz_s_dup_x1 at h
  obtain ⟨x, l, rfl, hp⟩ := mz_p1_ok h
  obtain ⟨y, l, rfl, hq⟩ := mz_p1_ok hp
  have h := hq
  obtain ⟨a1, h⟩ := mz_iff h
  obtain ⟨a2, h⟩ := mz_iff h
  obtain ⟨g1, g2, g3⟩ := hG _ _ _ _ _ _ _ _ _ h
  exact ⟨g1, g2, mz_dup_x1 C hd a1 a2 g3⟩
noncomputable def mz_s_dup2 (F : Nat → Nat × Nat) (nL mo : Nat) (hs : List mz_Hr) (call : mz_Ca) (go : mz_Go) (e pc L : Nat) (st : List Nat) (M K n top nc ns : Nat) : Option mz_Rt :=
  mz_p1 st fun x l => mz_p1 l fun y l => bif mz_c2 x then none else bif mz_c2 y then none else go (Nat.succ pc) L (x :: y :: x :: y :: l) M K n top nc ns
def mz_k_dup2 (own mn : String) (cc : ByteArray) (mo : Nat) (ret : Option FieldType) (e pc : Nat) : Bool := decide (decode cc pc = .ok (.dup2, 1))
theorem mz_t_dup2 (mk : mz_Mk) : mz_Lk mk mz_s_dup2 mz_k_dup2 := by
  intro X own cc F nL mo d hs ret r call go e pc L st M K n top nc ns ⟨C, O, hnL, hR, hD, hE, hC, hG⟩ hk h
  have hd := of_decide_eq_true hk
  unfold mz_s_dup2 at h
  obtain ⟨x, l, rfl, hp⟩ := mz_p1_ok h
  obtain ⟨y, l, rfl, hq⟩ := mz_p1_ok hp
  have h := hq
  obtain ⟨a1, h⟩ := mz_iff h
  obtain ⟨a2, h⟩ := mz_iff h
  obtain ⟨g1, g2, g3⟩ := hG _ _ _ _ _ _ _ _ _ h
  exact ⟨g1, g2, mz_dup2 C hd a1 a2 g3⟩
noncomputable def mz_s_getf (F : Nat → Nat × Nat) (nL mo : Nat) (hs : List mz_Hr) (call : mz_Ca) (go : mz_Go) (e pc L : Nat) (st : List Nat) (M K n top nc ns : Nat) : Option mz_Rt :=
  mz_p1 st fun x l => bif mz_ref n x then mz_f (mz_g K (mz_k x)) fun kd => bif Nat.beq (Nat.mod kd 256) (Nat.mod (mz_ey e) 64) then bif Nat.ble (Nat.succ (Nat.div (mz_ey e) 64)) (Nat.mod (Nat.div kd 256) 65536) then mz_f (mz_g M (Nat.add (Nat.div kd 16777216) (Nat.div (mz_ey e) 64))) fun w => go (Nat.add pc 3) L (w :: l) M K n top nc ns else none else none else none
def mz_k_getf (own mn : String) (cc : ByteArray) (mo : Nat) (ret : Option FieldType) (e pc : Nat) : Bool := (vwCl[Nat.mod (mz_ey e) 64]?).elim false fun q => decide (decode cc pc = .ok (.getfield (mz_ex e), 3) ∧ Nat.div (mz_ey e) 64 < q.2.2 ∧ (mz_wi (Nat.mod (mz_ez e) 4096) (.fieldLink own (mz_ex e) (q.2.1 (Nat.div (mz_ey e) 64)).1 (q.2.1 (Nat.div (mz_ey e) 64)).2.1 (q.2.1 (Nat.div (mz_ey e) 64)).2.2.1) ∨ (mz_wi (Nat.mod (mz_ez e) 4096) (.fieldLink own (mz_ex e) "java/util/ArrayList" (q.2.1 (Nat.div (mz_ey e) 64)).2.1 (q.2.1 (Nat.div (mz_ey e) 64)).2.2.1) ∧ Jvm.Cond.sameField "java/util/ArrayList" (q.2.1 (Nat.div (mz_ey e) 64)).1 (q.2.1 (Nat.div (mz_ey e) 64)).2.1 (q.2.1 (Nat.div (mz_ey e) 64)).2.2.1 ∈ mz_gG)))
theorem mz_t_getf (mk : mz_Mk) : mz_Lk mk mz_s_getf mz_k_getf := by
  intro X own cc F nL mo d hs ret r call go e pc L st M K n top nc ns ⟨C, O, hnL, hR, hD, hE, hC, hG⟩ hk h
  obtain ⟨⟨C0, T, N⟩, hc, hk⟩ := mz_elim hk
  obtain ⟨f1, f2, f3⟩ := mz_clf _ _ hc
  have hci : Nat.mod (mz_ey e) 64 < 64 := Nat.mod_lt _ (by decide)
  obtain ⟨hd, hf, hw⟩ := of_decide_eq_true hk
  unfold mz_s_getf at h
  obtain ⟨x, l, rfl, hp⟩ := mz_p1_ok h
  have h := hp
  obtain ⟨a1, h⟩ := mz_ift h
  rw [mz_f_eq] at h
  obtain ⟨a2, h⟩ := mz_ift h
  obtain ⟨a3, h⟩ := mz_ift h
  rw [mz_f_eq] at h
  obtain ⟨g1, g2, g3⟩ := hG _ _ _ _ _ _ _ _ _ h
  rcases hw with hw | ⟨hw, hw2⟩
  · exact ⟨g1, g2, mz_getf C hd hc f1 hf hci (mz_bfg C (mz_wi_ok hw)) (Or.inl rfl) a1 (mz_bq a2) (mz_bl a3) g3⟩
  · exact ⟨g1, g2, mz_getf C hd hc f1 hf hci (mz_bfg C (mz_wi_ok hw)) (Or.inr (mz_bfg C hw2)) a1 (mz_bq a2) (mz_bl a3) g3⟩
noncomputable def mz_s_getn (F : Nat → Nat × Nat) (nL mo : Nat) (hs : List mz_Hr) (call : mz_Ca) (go : mz_Go) (e pc L : Nat) (st : List Nat) (M K n top nc ns : Nat) : Option mz_Rt :=
  mz_p1 st fun x l => bif mz_ref n x then mz_f (mz_g K (mz_k x)) fun kd => bif Nat.beq (Nat.mod kd 256) (Nat.mod (mz_ey e) 64) then bif Nat.ble (Nat.succ (Nat.div (mz_ey e) 64)) (Nat.mod (Nat.div kd 256) 65536) then mz_f (mz_g M (Nat.add (Nat.div kd 16777216) (Nat.div (mz_ey e) 64))) fun w => go (Nat.add pc 3) L (w :: l) M K n top nc ns else none else none else none
def mz_k_getn (own mn : String) (cc : ByteArray) (mo : Nat) (ret : Option FieldType) (e pc : Nat) : Bool := (vwCl[Nat.mod (mz_ey e) 64]?).elim false fun q => decide (decode cc pc = .ok (.getfield (mz_ex e), 3) ∧ Nat.div (mz_ey e) 64 < q.2.2 ∧ (lw_tbl[Nat.mod (mz_ez e) 4096]? = some (.fieldLinkNest own (mz_ex e) (q.2.1 (Nat.div (mz_ey e) 64)).1 (q.2.1 (Nat.div (mz_ey e) 64)).2.1 (q.2.1 (Nat.div (mz_ey e) 64)).2.2.1 "HundredwardModel") ∨ lw_tbl[Nat.mod (mz_ez e) 4096]? = some (.fieldLinkNest own (mz_ex e) (q.2.1 (Nat.div (mz_ey e) 64)).1 (q.2.1 (Nat.div (mz_ey e) 64)).2.1 (q.2.1 (Nat.div (mz_ey e) 64)).2.2.1 "java/util/ArrayList") ∨ lw_tbl[Nat.mod (mz_ez e) 4096]? = some (.fieldLinkNest own (mz_ex e) (q.2.1 (Nat.div (mz_ey e) 64)).1 (q.2.1 (Nat.div (mz_ey e) 64)).2.1 (q.2.1 (Nat.div (mz_ey e) 64)).2.2.1 "Hundredward")))
theorem mz_t_getn (mk : mz_Mk) : mz_Lk mk mz_s_getn mz_k_getn := by
  intro X own cc F nL mo d hs ret r call go e pc L st M K n top nc ns ⟨C, O, hnL, hR, hD, hE, hC, hG⟩ hk h
  obtain ⟨⟨C0, T, N⟩, hc, hk⟩ := mz_elim hk
  obtain ⟨f1, f2, f3⟩ := mz_clf _ _ hc
  have hci : Nat.mod (mz_ey e) 64 < 64 := Nat.mod_lt _ (by decide)
  obtain ⟨hd, hf, hw⟩ := of_decide_eq_true hk
  unfold mz_s_getn at h
  obtain ⟨x, l, rfl, hp⟩ := mz_p1_ok h
  have h := hp
  obtain ⟨a1, h⟩ := mz_ift h
  rw [mz_f_eq] at h
  obtain ⟨a2, h⟩ := mz_ift h
  obtain ⟨a3, h⟩ := mz_ift h
  rw [mz_f_eq] at h
  obtain ⟨g1, g2, g3⟩ := hG _ _ _ _ _ _ _ _ _ h
  rcases hw with hw | hw | hw
  · exact ⟨g1, g2, mz_getfN C hd hc f1 hf hci (mz_bfn O (List.mem_of_getElem? hw) rfl) a1 (mz_bq a2) (mz_bl a3) g3⟩
  · exact ⟨g1, g2, mz_getfN C hd hc f1 hf hci (mz_bfn O (List.mem_of_getElem? hw) rfl) a1 (mz_bq a2) (mz_bl a3) g3⟩
  · exact ⟨g1, g2, mz_getfN C hd hc f1 hf hci (mz_bfn O (List.mem_of_getElem? hw) rfl) a1 (mz_bq a2) (mz_bl a3) g3⟩
noncomputable def mz_s_putf (F : Nat → Nat × Nat) (nL mo : Nat) (hs : List mz_Hr) (call : mz_Ca) (go : mz_Go) (e pc L : Nat) (st : List Nat) (M K n top nc ns : Nat) : Option mz_Rt :=
  mz_p1 st fun v l => mz_p1 l fun x l => bif mz_ref n x then mz_f (mz_g K (mz_k x)) fun kd => bif Nat.beq (Nat.mod kd 256) (Nat.mod (mz_ey e) 64) then bif Nat.ble (Nat.succ (Nat.div (mz_ey e) 64)) (Nat.mod (Nat.div kd 256) 65536) then bif mz_fk (Nat.div (mz_ez e) 4096) v then bif mz_wf v then mz_f (mz_p M (Nat.add (Nat.div kd 16777216) (Nat.div (mz_ey e) 64)) v) fun M => go (Nat.add pc 3) L l M K n top nc ns else none else none else none else none else none
def mz_k_putf (own mn : String) (cc : ByteArray) (mo : Nat) (ret : Option FieldType) (e pc : Nat) : Bool := (vwCl[Nat.mod (mz_ey e) 64]?).elim false fun q => decide (decode cc pc = .ok (.putfield (mz_ex e), 3) ∧ Nat.div (mz_ey e) 64 < q.2.2 ∧ mz_fkt (Nat.div (mz_ez e) 4096) (mz_tyc (Nat.mod (mz_ey e) 64) (Nat.div (mz_ey e) 64)) = true ∧ ((q.2.1 (Nat.div (mz_ey e) 64)).2.2.2 = false ∨ ((q.2.1 (Nat.div (mz_ey e) 64)).2.2.2 = true ∧ mn = "<init>" ∧ (q.2.1 (Nat.div (mz_ey e) 64)).1 = own)) ∧ (mz_wi (Nat.mod (mz_ez e) 4096) (.fieldLink own (mz_ex e) (q.2.1 (Nat.div (mz_ey e) 64)).1 (q.2.1 (Nat.div (mz_ey e) 64)).2.1 (q.2.1 (Nat.div (mz_ey e) 64)).2.2.1) ∨ (mz_wi (Nat.mod (mz_ez e) 4096) (.fieldLink own (mz_ex e) "java/util/ArrayList" (q.2.1 (Nat.div (mz_ey e) 64)).2.1 (q.2.1 (Nat.div (mz_ey e) 64)).2.2.1) ∧ Jvm.Cond.sameField "java/util/ArrayList" (q.2.1 (Nat.div (mz_ey e) 64)).1 (q.2.1 (Nat.div (mz_ey e) 64)).2.1 (q.2.1 (Nat.div (mz_ey e) 64)).2.2.1 ∈ mz_gG)))
theorem mz_t_putf (mk : mz_Mk) : mz_Lk mk mz_s_putf mz_k_putf := by
  intro X own cc F nL mo d hs ret r call go e pc L st M K n top nc ns ⟨C, O, hnL, hR, hD, hE, hC, hG⟩ hk h
  obtain ⟨⟨C0, T, N⟩, hc, hk⟩ := mz_elim hk
  obtain ⟨f1, f2, f3⟩ := mz_clf _ _ hc
  have hci : Nat.mod (mz_ey e) 64 < 64 := Nat.mod_lt _ (by decide)
  obtain ⟨hd, hf, hft, hfin, hw⟩ := of_decide_eq_true hk
  unfold mz_s_putf at h
  obtain ⟨v, l, rfl, hp⟩ := mz_p1_ok h
  obtain ⟨x, l, rfl, hq⟩ := mz_p1_ok hp
  have h := hq
  obtain ⟨a1, h⟩ := mz_ift h
  rw [mz_f_eq] at h
  obtain ⟨a2, h⟩ := mz_ift h
  obtain ⟨a3, h⟩ := mz_ift h
  obtain ⟨a4, h⟩ := mz_ift h
  obtain ⟨a5, h⟩ := mz_ift h
  rw [mz_f_eq] at h
  obtain ⟨g1, g2, g3⟩ := hG _ _ _ _ _ _ _ _ _ h
  rcases hw with hw | ⟨hw, hw2⟩
  · exact ⟨g1, g2, mz_putf C hd hc f1 hf hci f2 f3 (mz_bfg C (mz_wi_ok hw)) (Or.inl rfl) hfin a1 (mz_bq a2) (mz_bl a3) (mz_fk_ok hft a4) (mz_wf_ok a5) g3⟩
  · exact ⟨g1, g2, mz_putf C hd hc f1 hf hci f2 f3 (mz_bfg C (mz_wi_ok hw)) (Or.inr (mz_bfg C hw2)) hfin a1 (mz_bq a2) (mz_bl a3) (mz_fk_ok hft a4) (mz_wf_ok a5) g3⟩
noncomputable def mz_s_getE (F : Nat → Nat × Nat) (nL mo : Nat) (hs : List mz_Hr) (call : mz_Ca) (go : mz_Go) (e pc L : Nat) (st : List Nat) (M K n top nc ns : Nat) : Option mz_Rt :=
  mz_f (mz_ow 0) fun w => go (Nat.add pc 3) L (w :: st) M K n top nc ns
def mz_k_getE (own mn : String) (cc : ByteArray) (mo : Nat) (ret : Option FieldType) (e pc : Nat) : Bool := decide (decode cc pc = .ok (.getstatic (mz_ex e), 3) ∧ mz_wi (mz_ez e) (.fieldLink own (mz_ex e) "java/util/ArrayList" "DEFAULTCAPACITY_EMPTY_ELEMENTDATA" "[Ljava/lang/Object;"))
theorem mz_t_getE (mk : mz_Mk) : mz_Lk mk mz_s_getE mz_k_getE := by
  intro X own cc F nL mo d hs ret r call go e pc L st M K n top nc ns ⟨C, O, hnL, hR, hD, hE, hC, hG⟩ hk h
  obtain ⟨hd, hw⟩ := of_decide_eq_true hk
  unfold mz_s_getE at h
  rw [mz_f_eq] at h
  obtain ⟨g1, g2, g3⟩ := hG _ _ _ _ _ _ _ _ _ h
  exact ⟨g1, g2, mz_getE C O hd (mz_bfg C (mz_wi_ok hw)) g3⟩
noncomputable def mz_s_getCS (F : Nat → Nat × Nat) (nL mo : Nat) (hs : List mz_Hr) (call : mz_Ca) (go : mz_Go) (e pc L : Nat) (st : List Nat) (M K n top nc ns : Nat) : Option mz_Rt :=
  go (Nat.add pc 3) L (17 :: st) M K n top nc ns
def mz_k_getCS (own mn : String) (cc : ByteArray) (mo : Nat) (ret : Option FieldType) (e pc : Nat) : Bool := decide (decode cc pc = .ok (.getstatic (mz_ex e), 3) ∧ mz_wi (mz_ez e) (.fieldLink own (mz_ex e) "java/lang/String" "COMPACT_STRINGS" "Z"))
theorem mz_t_getCS (mk : mz_Mk) : mz_Lk mk mz_s_getCS mz_k_getCS := by
  intro X own cc F nL mo d hs ret r call go e pc L st M K n top nc ns ⟨C, O, hnL, hR, hD, hE, hC, hG⟩ hk h
  obtain ⟨hd, hw⟩ := of_decide_eq_true hk
  unfold mz_s_getCS at h
  obtain ⟨g1, g2, g3⟩ := hG _ _ _ _ _ _ _ _ _ h
  exact ⟨g1, g2, mz_getCS C O hd (mz_bfg C (mz_wi_ok hw)) g3⟩
noncomputable def mz_s_strV (F : Nat → Nat × Nat) (nL mo : Nat) (hs : List mz_Hr) (call : mz_Ca) (go : mz_Go) (e pc L : Nat) (st : List Nat) (M K n top nc ns : Nat) : Option mz_Rt :=
  mz_p1 st fun x l => mz_sj x fun j => mz_f (mz_ow (Nat.add 2 (Nat.mul 2 j))) fun w => go (Nat.add pc 3) L (w :: l) M K n top nc ns
def mz_k_strV (own mn : String) (cc : ByteArray) (mo : Nat) (ret : Option FieldType) (e pc : Nat) : Bool := decide (decode cc pc = .ok (.getfield (mz_ex e), 3) ∧ mz_wi (mz_ez e) (.fieldLink own (mz_ex e) "java/lang/String" "value" "[B"))
theorem mz_t_strV (mk : mz_Mk) : mz_Lk mk mz_s_strV mz_k_strV := by
  intro X own cc F nL mo d hs ret r call go e pc L st M K n top nc ns ⟨C, O, hnL, hR, hD, hE, hC, hG⟩ hk h
  obtain ⟨hd, hw⟩ := of_decide_eq_true hk
  unfold mz_s_strV at h
  obtain ⟨x, l, rfl, hp⟩ := mz_p1_ok h
  have h := hp
  obtain ⟨j, q, rfl, hj, h2⟩ := mz_sj_ok h
  have h := h2
  rw [mz_f_eq] at h
  obtain ⟨g1, g2, g3⟩ := hG _ _ _ _ _ _ _ _ _ h
  exact ⟨g1, g2, mz_strV C O hd hj (mz_bfg C (mz_wi_ok hw)) g3⟩
noncomputable def mz_s_strC (F : Nat → Nat × Nat) (nL mo : Nat) (hs : List mz_Hr) (call : mz_Ca) (go : mz_Go) (e pc L : Nat) (st : List Nat) (M K n top nc ns : Nat) : Option mz_Rt :=
  mz_p1 st fun x l => mz_sj x fun j => go (Nat.add pc 3) L (1 :: l) M K n top nc ns
def mz_k_strC (own mn : String) (cc : ByteArray) (mo : Nat) (ret : Option FieldType) (e pc : Nat) : Bool := decide (decode cc pc = .ok (.getfield (mz_ex e), 3) ∧ mz_wi (mz_ez e) (.fieldLink own (mz_ex e) "java/lang/String" "coder" "B"))
theorem mz_t_strC (mk : mz_Mk) : mz_Lk mk mz_s_strC mz_k_strC := by
  intro X own cc F nL mo d hs ret r call go e pc L st M K n top nc ns ⟨C, O, hnL, hR, hD, hE, hC, hG⟩ hk h
  obtain ⟨hd, hw⟩ := of_decide_eq_true hk
  unfold mz_s_strC at h
  obtain ⟨x, l, rfl, hp⟩ := mz_p1_ok h
  have h := hp
  obtain ⟨j, q, rfl, hj, h2⟩ := mz_sj_ok h
  have h := h2
  obtain ⟨g1, g2, g3⟩ := hG _ _ _ _ _ _ _ _ _ h
  exact ⟨g1, g2, mz_strC C O hd hj (mz_bfg C (mz_wi_ok hw)) g3⟩
end
section
/-! THE STEPS, 3 -/
noncomputable def mz_s_strL (F : Nat → Nat × Nat) (nL mo : Nat) (hs : List mz_Hr) (call : mz_Ca) (go : mz_Go) (e pc L : Nat) (st : List Nat) (M K n top nc ns : Nat) : Option mz_Rt :=
  mz_p1 st fun x l => mz_bj x fun j => mz_f (mz_n (mz_len (mz_sbs.getD j []))) fun w => go (Nat.succ pc) L (w :: l) M K n top nc ns
def mz_k_strL (own mn : String) (cc : ByteArray) (mo : Nat) (ret : Option FieldType) (e pc : Nat) : Bool := decide (decode cc pc = .ok (.arraylength, 1))
theorem mz_t_strL (mk : mz_Mk) : mz_Lk mk mz_s_strL mz_k_strL := by
  intro X own cc F nL mo d hs ret r call go e pc L st M K n top nc ns ⟨C, O, hnL, hR, hD, hE, hC, hG⟩ hk h
  have hd := of_decide_eq_true hk
  unfold mz_s_strL at h
  obtain ⟨x, l, rfl, hp⟩ := mz_p1_ok h
  have h := hp
  obtain ⟨j, q, rfl, hj, h2⟩ := mz_bj_ok h
  have h := h2
  rw [mz_f_eq] at h
  rw [mz_len_eq, ← (mz_sbs_ok hj).1] at h
  obtain ⟨g1, g2, g3⟩ := hG _ _ _ _ _ _ _ _ _ h
  exact ⟨g1, g2, mz_strL C O hd hj g3⟩
noncomputable def mz_s_strB (F : Nat → Nat × Nat) (nL mo : Nat) (hs : List mz_Hr) (call : mz_Ca) (go : mz_Go) (e pc L : Nat) (st : List Nat) (M K n top nc ns : Nat) : Option mz_Rt :=
  mz_p1 st fun i l => mz_p1 l fun x l => mz_bj x fun j => bif mz_sm i then bif Nat.ble (Nat.succ (mz_q i)) (mz_len (mz_sbs.getD j [])) then mz_f (mz_n ((mz_sbs.getD j []).getD (mz_q i) 0)) fun w => go (Nat.succ pc) L (w :: l) M K n top nc ns else none else none
def mz_k_strB (own mn : String) (cc : ByteArray) (mo : Nat) (ret : Option FieldType) (e pc : Nat) : Bool := decide (decode cc pc = .ok (.baload, 1))
theorem mz_t_strB (mk : mz_Mk) : mz_Lk mk mz_s_strB mz_k_strB := by
  intro X own cc F nL mo d hs ret r call go e pc L st M K n top nc ns ⟨C, O, hnL, hR, hD, hE, hC, hG⟩ hk h
  have hd := of_decide_eq_true hk
  unfold mz_s_strB at h
  obtain ⟨i, l, rfl, hp⟩ := mz_p1_ok h
  obtain ⟨x, l, rfl, hq⟩ := mz_p1_ok hp
  obtain ⟨j, q, rfl, hj, h2⟩ := mz_bj_ok hq
  have h := h2
  obtain ⟨a1, h⟩ := mz_ift h
  obtain ⟨a2, h⟩ := mz_ift h
  rw [mz_f_eq] at h
  rw [mz_len_eq, ← (mz_sbs_ok hj).1] at a2
  obtain ⟨g1, g2, g3⟩ := hG _ _ _ _ _ _ _ _ _ h
  exact ⟨g1, g2, mz_strB C O hd hj a1 (mz_bl a2) ((mz_sbs_ok hj).2 _) g3⟩
noncomputable def mz_s_alen (F : Nat → Nat × Nat) (nL mo : Nat) (hs : List mz_Hr) (call : mz_Ca) (go : mz_Go) (e pc L : Nat) (st : List Nat) (M K n top nc ns : Nat) : Option mz_Rt :=
  mz_p1 st fun x l => bif mz_ref n x then mz_f (mz_g K (mz_k x)) fun kd => bif Nat.ble 64 (Nat.mod kd 256) then bif Nat.ble (Nat.succ (Nat.mod kd 256)) 73 then mz_f (mz_n (Nat.mod (Nat.div kd 256) 65536)) fun w => go (Nat.succ pc) L (w :: l) M K n top nc ns else none else none else bif Nat.beq x (mz_ow 0) then go (Nat.succ pc) L (1 :: l) M K n top nc ns else none
def mz_k_alen (own mn : String) (cc : ByteArray) (mo : Nat) (ret : Option FieldType) (e pc : Nat) : Bool := decide (decode cc pc = .ok (.arraylength, 1))
theorem mz_t_alen (mk : mz_Mk) : mz_Lk mk mz_s_alen mz_k_alen := by
  intro X own cc F nL mo d hs ret r call go e pc L st M K n top nc ns ⟨C, O, hnL, hR, hD, hE, hC, hG⟩ hk h
  have hd := of_decide_eq_true hk
  unfold mz_s_alen at h
  obtain ⟨x, l, rfl, hp⟩ := mz_p1_ok h
  have h := hp
  rcases mz_if h with ⟨a1, h⟩ | ⟨-, h⟩
  · rw [mz_f_eq] at h
    obtain ⟨a2, h⟩ := mz_ift h
    obtain ⟨a3, h⟩ := mz_ift h
    rw [mz_f_eq] at h
    obtain ⟨g1, g2, g3⟩ := hG _ _ _ _ _ _ _ _ _ h
    have b2 : 64 ≤ mz_ct K (mz_k x) := mz_bl a2
    have b3 : mz_ct K (mz_k x) < 73 := mz_bl a3
    exact ⟨g1, g2, mz_alen (t := mz_ct K (mz_k x) - 64) C hd a1 (by omega) (by omega) g3⟩
  · obtain ⟨a1, h⟩ := mz_ift h
    rw [mz_bq a1]
    obtain ⟨g1, g2, g3⟩ := hG _ _ _ _ _ _ _ _ _ h
    exact ⟨g1, g2, mz_emptyL C O hd g3⟩
noncomputable def mz_s_slen (F : Nat → Nat × Nat) (nL mo : Nat) (hs : List mz_Hr) (call : mz_Ca) (go : mz_Go) (e pc L : Nat) (st : List Nat) (M K n top nc ns : Nat) : Option mz_Rt :=
  mz_p1 st fun x l => bif Nat.beq x (mz_ow 99) then mz_f (mz_n (Nat.sub mo 2)) fun w => go (Nat.succ pc) L (w :: l) M K n top nc ns else none
def mz_k_slen (own mn : String) (cc : ByteArray) (mo : Nat) (ret : Option FieldType) (e pc : Nat) : Bool := decide (decode cc pc = .ok (.arraylength, 1) ∧ 2 ≤ mo)
theorem mz_t_slen (mk : mz_Mk) : mz_Lk mk mz_s_slen mz_k_slen := by
  intro X own cc F nL mo d hs ret r call go e pc L st M K n top nc ns ⟨C, O, hnL, hR, hD, hE, hC, hG⟩ hk h
  obtain ⟨hd, hm⟩ := of_decide_eq_true hk
  unfold mz_s_slen at h
  obtain ⟨x, l, rfl, hp⟩ := mz_p1_ok h
  have h := hp
  obtain ⟨a1, h⟩ := mz_ift h
  rw [mz_f_eq] at h
  obtain ⟨g1, g2, g3⟩ := hG _ _ _ _ _ _ _ _ _ h
  rw [mz_bq a1]
  exact ⟨g1, g2, mz_slenG C (hE.2.2 (mo - 2) (by omega)) hd g3⟩
noncomputable def mz_s_sald (F : Nat → Nat × Nat) (nL mo : Nat) (hs : List mz_Hr) (call : mz_Ca) (go : mz_Go) (e pc L : Nat) (st : List Nat) (M K n top nc ns : Nat) : Option mz_Rt :=
  mz_p1 st fun i l => mz_p1 l fun x l => bif Nat.beq x (mz_ow 99) then bif mz_sm i then bif Nat.ble (Nat.succ (mz_q i)) (Nat.sub mo 2) then bif Nat.ble (Nat.succ (mz_q i)) 4 then mz_var F (mz_q i) fun w => go (Nat.succ pc) L (w :: l) M K n top nc ns else none else none else none else none
def mz_k_sald (own mn : String) (cc : ByteArray) (mo : Nat) (ret : Option FieldType) (e pc : Nat) : Bool := decide (decode cc pc = .ok (.iaload, 1) ∧ 2 ≤ mo)
theorem mz_t_sald (mk : mz_Mk) : mz_Lk mk mz_s_sald mz_k_sald := by
  intro X own cc F nL mo d hs ret r call go e pc L st M K n top nc ns ⟨C, O, hnL, hR, hD, hE, hC, hG⟩ hk h
  obtain ⟨hd, hm⟩ := of_decide_eq_true hk
  have hF : mz_F F (mz_rho X) := mz_CF C
  unfold mz_s_sald at h
  obtain ⟨i, l, rfl, hp⟩ := mz_p1_ok h
  obtain ⟨x, l, rfl, hq⟩ := mz_p1_ok hp
  have h := hq
  obtain ⟨a1, h⟩ := mz_ift h
  obtain ⟨a2, h⟩ := mz_ift h
  obtain ⟨a3, h⟩ := mz_ift h
  obtain ⟨a4, h⟩ := mz_ift h
  obtain ⟨w, h, b1, b2⟩ := mz_var_ok hF (Nat.lt_of_lt_of_le (mz_bl a4) (by decide)) h
  obtain ⟨g1, g2, g3⟩ := hG _ _ _ _ _ _ _ _ _ h
  rw [mz_bq a1]
  exact ⟨g1, g2, mz_saldG C (hE.2.2 (mo - 2) (by omega)) hd a2 (mz_bl a3) b1 b2 g3⟩
noncomputable def mz_s_iald (F : Nat → Nat × Nat) (nL mo : Nat) (hs : List mz_Hr) (call : mz_Ca) (go : mz_Go) (e pc L : Nat) (st : List Nat) (M K n top nc ns : Nat) : Option mz_Rt :=
  mz_p1 st fun i l => mz_p1 l fun x l => bif mz_ref n x then mz_f (mz_g K (mz_k x)) fun kd => bif Nat.beq (Nat.mod kd 256) 64 then bif mz_sm i then bif Nat.ble (Nat.succ (mz_q i)) (Nat.mod (Nat.div kd 256) 65536) then mz_f (mz_g M (Nat.add (Nat.div kd 16777216) (mz_q i))) fun w => bif mz_I w then go (Nat.succ pc) L (w :: l) M K n top nc ns else none else none else none else none else none
def mz_k_iald (own mn : String) (cc : ByteArray) (mo : Nat) (ret : Option FieldType) (e pc : Nat) : Bool := decide (decode cc pc = .ok (.iaload, 1))
theorem mz_t_iald (mk : mz_Mk) : mz_Lk mk mz_s_iald mz_k_iald := by
  intro X own cc F nL mo d hs ret r call go e pc L st M K n top nc ns ⟨C, O, hnL, hR, hD, hE, hC, hG⟩ hk h
  have hd := of_decide_eq_true hk
  unfold mz_s_iald at h
  obtain ⟨i, l, rfl, hp⟩ := mz_p1_ok h
  obtain ⟨x, l, rfl, hq⟩ := mz_p1_ok hp
  have h := hq
  obtain ⟨a1, h⟩ := mz_ift h
  rw [mz_f_eq] at h
  obtain ⟨a2, h⟩ := mz_ift h
  obtain ⟨a3, h⟩ := mz_ift h
  obtain ⟨a4, h⟩ := mz_ift h
  rw [mz_f_eq] at h
  obtain ⟨a5, h⟩ := mz_ift h
  obtain ⟨g1, g2, g3⟩ := hG _ _ _ _ _ _ _ _ _ h
  exact ⟨g1, g2, mz_xald (t := 0) C hd (Or.inl ⟨rfl, rfl⟩) a1 (mz_bq a2) a3 (mz_bl a4) a5 g3⟩
noncomputable def mz_s_cald (F : Nat → Nat × Nat) (nL mo : Nat) (hs : List mz_Hr) (call : mz_Ca) (go : mz_Go) (e pc L : Nat) (st : List Nat) (M K n top nc ns : Nat) : Option mz_Rt :=
  mz_p1 st fun i l => mz_p1 l fun x l => bif mz_ref n x then mz_f (mz_g K (mz_k x)) fun kd => bif Nat.beq (Nat.mod kd 256) 66 then bif mz_sm i then bif Nat.ble (Nat.succ (mz_q i)) (Nat.mod (Nat.div kd 256) 65536) then mz_f (mz_g M (Nat.add (Nat.div kd 16777216) (mz_q i))) fun w => bif mz_I w then go (Nat.succ pc) L (w :: l) M K n top nc ns else none else none else none else none else none
def mz_k_cald (own mn : String) (cc : ByteArray) (mo : Nat) (ret : Option FieldType) (e pc : Nat) : Bool := decide (decode cc pc = .ok (.caload, 1))
theorem mz_t_cald (mk : mz_Mk) : mz_Lk mk mz_s_cald mz_k_cald := by
  intro X own cc F nL mo d hs ret r call go e pc L st M K n top nc ns ⟨C, O, hnL, hR, hD, hE, hC, hG⟩ hk h
  have hd := of_decide_eq_true hk
  unfold mz_s_cald at h
  obtain ⟨i, l, rfl, hp⟩ := mz_p1_ok h
  obtain ⟨x, l, rfl, hq⟩ := mz_p1_ok hp
  have h := hq
  obtain ⟨a1, h⟩ := mz_ift h
  rw [mz_f_eq] at h
  obtain ⟨a2, h⟩ := mz_ift h
  obtain ⟨a3, h⟩ := mz_ift h
  obtain ⟨a4, h⟩ := mz_ift h
  rw [mz_f_eq] at h
  obtain ⟨a5, h⟩ := mz_ift h
  obtain ⟨g1, g2, g3⟩ := hG _ _ _ _ _ _ _ _ _ h
  exact ⟨g1, g2, mz_xald (t := 2) C hd (Or.inr (Or.inl ⟨rfl, rfl⟩)) a1 (mz_bq a2) a3 (mz_bl a4) a5 g3⟩
noncomputable def mz_s_bald (F : Nat → Nat × Nat) (nL mo : Nat) (hs : List mz_Hr) (call : mz_Ca) (go : mz_Go) (e pc L : Nat) (st : List Nat) (M K n top nc ns : Nat) : Option mz_Rt :=
  mz_p1 st fun i l => mz_p1 l fun x l => bif mz_ref n x then mz_f (mz_g K (mz_k x)) fun kd => bif Nat.beq (Nat.mod kd 256) 67 then bif mz_sm i then bif Nat.ble (Nat.succ (mz_q i)) (Nat.mod (Nat.div kd 256) 65536) then mz_f (mz_g M (Nat.add (Nat.div kd 16777216) (mz_q i))) fun w => bif mz_I w then go (Nat.succ pc) L (w :: l) M K n top nc ns else none else none else none else none else none
def mz_k_bald (own mn : String) (cc : ByteArray) (mo : Nat) (ret : Option FieldType) (e pc : Nat) : Bool := decide (decode cc pc = .ok (.baload, 1))
theorem mz_t_bald (mk : mz_Mk) : mz_Lk mk mz_s_bald mz_k_bald := by
  intro X own cc F nL mo d hs ret r call go e pc L st M K n top nc ns ⟨C, O, hnL, hR, hD, hE, hC, hG⟩ hk h
  have hd := of_decide_eq_true hk
  unfold mz_s_bald at h
  obtain ⟨i, l, rfl, hp⟩ := mz_p1_ok h
  obtain ⟨x, l, rfl, hq⟩ := mz_p1_ok hp
  have h := hq
  obtain ⟨a1, h⟩ := mz_ift h
  rw [mz_f_eq] at h
  obtain ⟨a2, h⟩ := mz_ift h
  obtain ⟨a3, h⟩ := mz_ift h
  obtain ⟨a4, h⟩ := mz_ift h
  rw [mz_f_eq] at h
  obtain ⟨a5, h⟩ := mz_ift h
  obtain ⟨g1, g2, g3⟩ := hG _ _ _ _ _ _ _ _ _ h
  exact ⟨g1, g2, mz_xald (t := 3) C hd (Or.inr (Or.inr ⟨rfl, rfl⟩)) a1 (mz_bq a2) a3 (mz_bl a4) a5 g3⟩
noncomputable def mz_s_lald (F : Nat → Nat × Nat) (nL mo : Nat) (hs : List mz_Hr) (call : mz_Ca) (go : mz_Go) (e pc L : Nat) (st : List Nat) (M K n top nc ns : Nat) : Option mz_Rt :=
  mz_p1 st fun i l => mz_p1 l fun x l => bif mz_ref n x then mz_f (mz_g K (mz_k x)) fun kd => bif Nat.beq (Nat.mod kd 256) 65 then bif mz_sm i then bif Nat.ble (Nat.succ (mz_q i)) (Nat.mod (Nat.div kd 256) 65536) then mz_f (mz_g M (Nat.add (Nat.div kd 16777216) (mz_q i))) fun w => bif mz_L w then go (Nat.succ pc) L (w :: l) M K n top nc ns else none else none else none else none else none
def mz_k_lald (own mn : String) (cc : ByteArray) (mo : Nat) (ret : Option FieldType) (e pc : Nat) : Bool := decide (decode cc pc = .ok (.laload, 1))
theorem mz_t_lald (mk : mz_Mk) : mz_Lk mk mz_s_lald mz_k_lald := by
  intro X own cc F nL mo d hs ret r call go e pc L st M K n top nc ns ⟨C, O, hnL, hR, hD, hE, hC, hG⟩ hk h
  have hd := of_decide_eq_true hk
  unfold mz_s_lald at h
  obtain ⟨i, l, rfl, hp⟩ := mz_p1_ok h
  obtain ⟨x, l, rfl, hq⟩ := mz_p1_ok hp
  have h := hq
  obtain ⟨a1, h⟩ := mz_ift h
  rw [mz_f_eq] at h
  obtain ⟨a2, h⟩ := mz_ift h
  obtain ⟨a3, h⟩ := mz_ift h
  obtain ⟨a4, h⟩ := mz_ift h
  rw [mz_f_eq] at h
  obtain ⟨a5, h⟩ := mz_ift h
  obtain ⟨g1, g2, g3⟩ := hG _ _ _ _ _ _ _ _ _ h
  exact ⟨g1, g2, mz_lald C hd a1 (mz_bq a2) a3 (mz_bl a4) a5 g3⟩
noncomputable def mz_s_aald (F : Nat → Nat × Nat) (nL mo : Nat) (hs : List mz_Hr) (call : mz_Ca) (go : mz_Go) (e pc L : Nat) (st : List Nat) (M K n top nc ns : Nat) : Option mz_Rt :=
  mz_p1 st fun i l => mz_p1 l fun x l => bif mz_ref n x then mz_f (mz_g K (mz_k x)) fun kd => bif Nat.ble 69 (Nat.mod kd 256) then bif Nat.ble (Nat.succ (Nat.mod kd 256)) 73 then bif mz_sm i then bif Nat.ble (Nat.succ (mz_q i)) (Nat.mod (Nat.div kd 256) 65536) then mz_f (mz_g M (Nat.add (Nat.div kd 16777216) (mz_q i))) fun w => bif mz_R w then go (Nat.succ pc) L (w :: l) M K n top nc ns else none else none else none else none else none else none
def mz_k_aald (own mn : String) (cc : ByteArray) (mo : Nat) (ret : Option FieldType) (e pc : Nat) : Bool := decide (decode cc pc = .ok (.aaload, 1))
theorem mz_t_aald (mk : mz_Mk) : mz_Lk mk mz_s_aald mz_k_aald := by
  intro X own cc F nL mo d hs ret r call go e pc L st M K n top nc ns ⟨C, O, hnL, hR, hD, hE, hC, hG⟩ hk h
  have hd := of_decide_eq_true hk
  unfold mz_s_aald at h
  obtain ⟨i, l, rfl, hp⟩ := mz_p1_ok h
  obtain ⟨x, l, rfl, hq⟩ := mz_p1_ok hp
  have h := hq
  obtain ⟨a1, h⟩ := mz_ift h
  rw [mz_f_eq] at h
  obtain ⟨a2, h⟩ := mz_ift h
  obtain ⟨a2b, h⟩ := mz_ift h
  obtain ⟨a3, h⟩ := mz_ift h
  obtain ⟨a4, h⟩ := mz_ift h
  rw [mz_f_eq] at h
  obtain ⟨a5, h⟩ := mz_ift h
  obtain ⟨g1, g2, g3⟩ := hG _ _ _ _ _ _ _ _ _ h
  have b2 : 69 ≤ mz_ct K (mz_k x) := mz_bl a2
  have b3 : mz_ct K (mz_k x) < 73 := mz_bl a2b
  exact ⟨g1, g2, mz_aald (t := mz_ct K (mz_k x) - 64) C hd a1 (by omega) (by omega) (by omega) a3 (mz_bl a4) a5 g3⟩
noncomputable def mz_s_iast (F : Nat → Nat × Nat) (nL mo : Nat) (hs : List mz_Hr) (call : mz_Ca) (go : mz_Go) (e pc L : Nat) (st : List Nat) (M K n top nc ns : Nat) : Option mz_Rt :=
  mz_p1 st fun v l => mz_p1 l fun i l => mz_p1 l fun x l => bif mz_ref n x then mz_f (mz_g K (mz_k x)) fun kd => bif Nat.beq (Nat.mod kd 256) 64 then bif mz_sm i then bif Nat.ble (Nat.succ (mz_q i)) (Nat.mod (Nat.div kd 256) 65536) then bif mz_I v then bif mz_wf v then mz_f (mz_p M (Nat.add (Nat.div kd 16777216) (mz_q i)) v) fun M => go (Nat.succ pc) L l M K n top nc ns else none else none else none else none else none else none
def mz_k_iast (own mn : String) (cc : ByteArray) (mo : Nat) (ret : Option FieldType) (e pc : Nat) : Bool := decide (decode cc pc = .ok (.iastore, 1))
theorem mz_t_iast (mk : mz_Mk) : mz_Lk mk mz_s_iast mz_k_iast := by
  intro X own cc F nL mo d hs ret r call go e pc L st M K n top nc ns ⟨C, O, hnL, hR, hD, hE, hC, hG⟩ hk h
  have hd := of_decide_eq_true hk
  unfold mz_s_iast at h
  obtain ⟨v, l, rfl, ho⟩ := mz_p1_ok h
  obtain ⟨i, l, rfl, hp⟩ := mz_p1_ok ho
  obtain ⟨x, l, rfl, hq⟩ := mz_p1_ok hp
  have h := hq
  obtain ⟨a1, h⟩ := mz_ift h
  rw [mz_f_eq] at h
  obtain ⟨a2, h⟩ := mz_ift h
  obtain ⟨a3, h⟩ := mz_ift h
  obtain ⟨a4, h⟩ := mz_ift h
  obtain ⟨a5, h⟩ := mz_ift h
  obtain ⟨a6, h⟩ := mz_ift h
  rw [mz_f_eq] at h
  obtain ⟨g1, g2, g3⟩ := hG _ _ _ _ _ _ _ _ _ h
  exact ⟨g1, g2, mz_xast (t := 0) C hd (Or.inl ⟨rfl, rfl⟩) a1 (mz_bq a2) a3 (mz_bl a4) a5 (mz_wf_ok a6) g3⟩
noncomputable def mz_s_cast (F : Nat → Nat × Nat) (nL mo : Nat) (hs : List mz_Hr) (call : mz_Ca) (go : mz_Go) (e pc L : Nat) (st : List Nat) (M K n top nc ns : Nat) : Option mz_Rt :=
  mz_p1 st fun v l => mz_p1 l fun i l => mz_p1 l fun x l => bif mz_ref n x then mz_f (mz_g K (mz_k x)) fun kd => bif Nat.beq (Nat.mod kd 256) 66 then bif mz_sm i then bif Nat.ble (Nat.succ (mz_q i)) (Nat.mod (Nat.div kd 256) 65536) then bif mz_fit .char v then bif mz_wf v then mz_f (mz_p M (Nat.add (Nat.div kd 16777216) (mz_q i)) v) fun M => go (Nat.succ pc) L l M K n top nc ns else none else none else none else none else none else none
def mz_k_cast (own mn : String) (cc : ByteArray) (mo : Nat) (ret : Option FieldType) (e pc : Nat) : Bool := decide (decode cc pc = .ok (.castore, 1))
theorem mz_t_cast (mk : mz_Mk) : mz_Lk mk mz_s_cast mz_k_cast := by
  intro X own cc F nL mo d hs ret r call go e pc L st M K n top nc ns ⟨C, O, hnL, hR, hD, hE, hC, hG⟩ hk h
  have hd := of_decide_eq_true hk
  unfold mz_s_cast at h
  obtain ⟨v, l, rfl, ho⟩ := mz_p1_ok h
  obtain ⟨i, l, rfl, hp⟩ := mz_p1_ok ho
  obtain ⟨x, l, rfl, hq⟩ := mz_p1_ok hp
  have h := hq
  obtain ⟨a1, h⟩ := mz_ift h
  rw [mz_f_eq] at h
  obtain ⟨a2, h⟩ := mz_ift h
  obtain ⟨a3, h⟩ := mz_ift h
  obtain ⟨a4, h⟩ := mz_ift h
  obtain ⟨a5, h⟩ := mz_ift h
  obtain ⟨a6, h⟩ := mz_ift h
  rw [mz_f_eq] at h
  obtain ⟨g1, g2, g3⟩ := hG _ _ _ _ _ _ _ _ _ h
  exact ⟨g1, g2, mz_xast (t := 2) C hd (Or.inr (Or.inl ⟨rfl, rfl⟩)) a1 (mz_bq a2) a3 (mz_bl a4) a5 (mz_wf_ok a6) g3⟩
noncomputable def mz_s_bast (F : Nat → Nat × Nat) (nL mo : Nat) (hs : List mz_Hr) (call : mz_Ca) (go : mz_Go) (e pc L : Nat) (st : List Nat) (M K n top nc ns : Nat) : Option mz_Rt :=
  mz_p1 st fun v l => mz_p1 l fun i l => mz_p1 l fun x l => bif mz_ref n x then mz_f (mz_g K (mz_k x)) fun kd => bif Nat.beq (Nat.mod kd 256) 67 then bif mz_sm i then bif Nat.ble (Nat.succ (mz_q i)) (Nat.mod (Nat.div kd 256) 65536) then bif mz_fit .boolean v then bif mz_wf v then mz_f (mz_p M (Nat.add (Nat.div kd 16777216) (mz_q i)) v) fun M => go (Nat.succ pc) L l M K n top nc ns else none else none else none else none else none else none
def mz_k_bast (own mn : String) (cc : ByteArray) (mo : Nat) (ret : Option FieldType) (e pc : Nat) : Bool := decide (decode cc pc = .ok (.bastore, 1))
theorem mz_t_bast (mk : mz_Mk) : mz_Lk mk mz_s_bast mz_k_bast := by
  intro X own cc F nL mo d hs ret r call go e pc L st M K n top nc ns ⟨C, O, hnL, hR, hD, hE, hC, hG⟩ hk h
  have hd := of_decide_eq_true hk
  unfold mz_s_bast at h
  obtain ⟨v, l, rfl, ho⟩ := mz_p1_ok h
  obtain ⟨i, l, rfl, hp⟩ := mz_p1_ok ho
  obtain ⟨x, l, rfl, hq⟩ := mz_p1_ok hp
  have h := hq
  obtain ⟨a1, h⟩ := mz_ift h
  rw [mz_f_eq] at h
  obtain ⟨a2, h⟩ := mz_ift h
  obtain ⟨a3, h⟩ := mz_ift h
  obtain ⟨a4, h⟩ := mz_ift h
  obtain ⟨a5, h⟩ := mz_ift h
  obtain ⟨a6, h⟩ := mz_ift h
  rw [mz_f_eq] at h
  obtain ⟨g1, g2, g3⟩ := hG _ _ _ _ _ _ _ _ _ h
  exact ⟨g1, g2, mz_xast (t := 3) C hd (Or.inr (Or.inr ⟨rfl, rfl⟩)) a1 (mz_bq a2) a3 (mz_bl a4) a5 (mz_wf_ok a6) g3⟩
noncomputable def mz_s_last (F : Nat → Nat × Nat) (nL mo : Nat) (hs : List mz_Hr) (call : mz_Ca) (go : mz_Go) (e pc L : Nat) (st : List Nat) (M K n top nc ns : Nat) : Option mz_Rt :=
  mz_p1 st fun v l => mz_p1 l fun i l => mz_p1 l fun x l => bif mz_ref n x then mz_f (mz_g K (mz_k x)) fun kd => bif Nat.beq (Nat.mod kd 256) 65 then bif mz_sm i then bif Nat.ble (Nat.succ (mz_q i)) (Nat.mod (Nat.div kd 256) 65536) then bif mz_L v then bif mz_wf v then mz_f (mz_p M (Nat.add (Nat.div kd 16777216) (mz_q i)) v) fun M => go (Nat.succ pc) L l M K n top nc ns else none else none else none else none else none else none
def mz_k_last (own mn : String) (cc : ByteArray) (mo : Nat) (ret : Option FieldType) (e pc : Nat) : Bool := decide (decode cc pc = .ok (.lastore, 1))
theorem mz_t_last (mk : mz_Mk) : mz_Lk mk mz_s_last mz_k_last := by
  intro X own cc F nL mo d hs ret r call go e pc L st M K n top nc ns ⟨C, O, hnL, hR, hD, hE, hC, hG⟩ hk h
  have hd := of_decide_eq_true hk
  unfold mz_s_last at h
  obtain ⟨v, l, rfl, ho⟩ := mz_p1_ok h
  obtain ⟨i, l, rfl, hp⟩ := mz_p1_ok ho
  obtain ⟨x, l, rfl, hq⟩ := mz_p1_ok hp
  have h := hq
  obtain ⟨a1, h⟩ := mz_ift h
  rw [mz_f_eq] at h
  obtain ⟨a2, h⟩ := mz_ift h
  obtain ⟨a3, h⟩ := mz_ift h
  obtain ⟨a4, h⟩ := mz_ift h
  obtain ⟨a5, h⟩ := mz_ift h
  obtain ⟨a6, h⟩ := mz_ift h
  rw [mz_f_eq] at h
  obtain ⟨g1, g2, g3⟩ := hG _ _ _ _ _ _ _ _ _ h
  exact ⟨g1, g2, mz_last C hd a1 (mz_bq a2) a3 (mz_bl a4) a5 (mz_wf_ok a6) g3⟩
noncomputable def mz_s_aast (F : Nat → Nat × Nat) (nL mo : Nat) (hs : List mz_Hr) (call : mz_Ca) (go : mz_Go) (e pc L : Nat) (st : List Nat) (M K n top nc ns : Nat) : Option mz_Rt :=
  mz_p1 st fun v l => mz_p1 l fun i l => mz_p1 l fun x l => bif mz_ref n x then mz_f (mz_g K (mz_k x)) fun kd => bif Nat.ble 69 (Nat.mod kd 256) then bif Nat.ble (Nat.succ (Nat.mod kd 256)) 73 then bif mz_sm i then bif Nat.ble (Nat.succ (mz_q i)) (Nat.mod (Nat.div kd 256) 65536) then bif mz_aok n K v (Nat.sub (Nat.mod kd 256) 64) then bif mz_wf v then mz_f (mz_p M (Nat.add (Nat.div kd 16777216) (mz_q i)) v) fun M => go (Nat.succ pc) L l M K n top nc ns else none else none else none else none else none else none else none
def mz_k_aast (own mn : String) (cc : ByteArray) (mo : Nat) (ret : Option FieldType) (e pc : Nat) : Bool := decide (decode cc pc = .ok (.aastore, 1))
theorem mz_t_aast (mk : mz_Mk) : mz_Lk mk mz_s_aast mz_k_aast := by
  intro X own cc F nL mo d hs ret r call go e pc L st M K n top nc ns ⟨C, O, hnL, hR, hD, hE, hC, hG⟩ hk h
  have hd := of_decide_eq_true hk
  unfold mz_s_aast at h
  obtain ⟨v, l, rfl, ho⟩ := mz_p1_ok h
  obtain ⟨i, l, rfl, hp⟩ := mz_p1_ok ho
  obtain ⟨x, l, rfl, hq⟩ := mz_p1_ok hp
  have h := hq
  obtain ⟨a1, h⟩ := mz_ift h
  rw [mz_f_eq] at h
  obtain ⟨a2, h⟩ := mz_ift h
  obtain ⟨a2b, h⟩ := mz_ift h
  obtain ⟨a3, h⟩ := mz_ift h
  obtain ⟨a4, h⟩ := mz_ift h
  obtain ⟨a5, h⟩ := mz_ift h
  obtain ⟨a6, h⟩ := mz_ift h
  rw [mz_f_eq] at h
  obtain ⟨g1, g2, g3⟩ := hG _ _ _ _ _ _ _ _ _ h
  have b2 : 69 ≤ mz_ct K (mz_k x) := mz_bl a2
  have b3 : mz_ct K (mz_k x) < 73 := mz_bl a2b
  exact ⟨g1, g2, mz_aast (t := mz_ct K (mz_k x) - 64) C hd a1 (by omega) (by omega) (by omega) a3 (mz_bl a4) (mz_aok_ok O a5) (mz_wf_ok a6) g3⟩
noncomputable def mz_s_ccast (F : Nat → Nat × Nat) (nL mo : Nat) (hs : List mz_Hr) (call : mz_Ca) (go : mz_Go) (e pc L : Nat) (st : List Nat) (M K n top nc ns : Nat) : Option mz_Rt :=
  mz_p1 st fun x l => bif mz_ref n x then bif Nat.beq (mz_ct K (mz_k x)) (Nat.mod (mz_ey e) 64) then go (Nat.add pc 3) L (x :: l) M K n top nc ns else none else none
def mz_k_ccast (own mn : String) (cc : ByteArray) (mo : Nat) (ret : Option FieldType) (e pc : Nat) : Bool := (vwCl[Nat.mod (mz_ey e) 64]?).elim false fun q => decide (decode cc pc = .ok (.checkcast (mz_ex e), 3) ∧ mz_wi (mz_ez e) (.classLink own (mz_ex e) q.1))
theorem mz_t_ccast (mk : mz_Mk) : mz_Lk mk mz_s_ccast mz_k_ccast := by
  intro X own cc F nL mo d hs ret r call go e pc L st M K n top nc ns ⟨C, O, hnL, hR, hD, hE, hC, hG⟩ hk h
  obtain ⟨⟨C0, T, N⟩, hc, hk⟩ := mz_elim hk
  obtain ⟨f1, f2, f3⟩ := mz_clf _ _ hc
  have hci : Nat.mod (mz_ey e) 64 < 64 := Nat.mod_lt _ (by decide)
  obtain ⟨hd, hw⟩ := of_decide_eq_true hk
  unfold mz_s_ccast at h
  obtain ⟨x, l, rfl, hp⟩ := mz_p1_ok h
  have h := hp
  obtain ⟨a1, h⟩ := mz_ift h
  obtain ⟨a2, h⟩ := mz_ift h
  obtain ⟨g1, g2, g3⟩ := hG _ _ _ _ _ _ _ _ _ h
  exact ⟨g1, g2, mz_castS C hd hc hci (mz_bfg C (mz_wi_ok hw)) a1 (mz_bq a2) g3⟩
noncomputable def mz_s_new (F : Nat → Nat × Nat) (nL mo : Nat) (hs : List mz_Hr) (call : mz_Ca) (go : mz_Go) (e pc L : Nat) (st : List Nat) (M K n top nc ns : Nat) : Option mz_Rt :=
  mz_f (mz_dlt (Nat.mod (mz_ey e) 64)).1 fun N => bif mz_roomy n N top then mz_f (mz_fl (mz_dlt (Nat.mod (mz_ey e) 64)).2 M top) fun M => mz_f (mz_p K n (mz_mt (Nat.mod (mz_ey e) 64) N top)) fun K => mz_f (mz_nr n) fun w => mz_f (Nat.succ n) fun n => mz_f (Nat.add top N) fun top => mz_f (Nat.succ nc) fun nc => mz_f (Nat.add ns N) fun ns => go (Nat.add pc 3) L (w :: st) M K n top nc ns else none
def mz_k_new (own mn : String) (cc : ByteArray) (mo : Nat) (ret : Option FieldType) (e pc : Nat) : Bool := (vwCl[Nat.mod (mz_ey e) 64]?).elim false fun q => decide (decode cc pc = .ok (.new (mz_ex e), 3) ∧ mz_wi (mz_ez e) (.classLink own (mz_ex e) q.1) ∧ Jvm.Cond.instantiable q.1 q.2.2 ∈ mz_gG ∧ Jvm.Cond.initialized q.1 ∈ mz_gG)
theorem mz_t_new (mk : mz_Mk) : mz_Lk mk mz_s_new mz_k_new := by
  intro X own cc F nL mo d hs ret r call go e pc L st M K n top nc ns ⟨C, O, hnL, hR, hD, hE, hC, hG⟩ hk h
  obtain ⟨⟨C0, T, N⟩, hc, hk⟩ := mz_elim hk
  obtain ⟨f1, f2, f3⟩ := mz_clf _ _ hc
  have hci : Nat.mod (mz_ey e) 64 < 64 := Nat.mod_lt _ (by decide)
  have hdl := mz_dlt_ok _ _ hc
  obtain ⟨hd, hw, hw2, hw3⟩ := of_decide_eq_true hk
  unfold mz_s_new at h
  rw [mz_f_eq, hdl] at h
  obtain ⟨a1, h⟩ := mz_ift h
  rw [mz_f_eq, mz_f_eq, mz_f_eq, mz_f_eq, mz_f_eq, mz_f_eq, mz_f_eq] at h
  obtain ⟨g1, g2, g3⟩ := hG _ _ _ _ _ _ _ _ _ h
  exact ⟨Nat.le_trans (Nat.le_succ _) g1, Nat.le_trans (Nat.le_add_right _ _) g2, mz_new C hd hc f1 hci f2 (mz_bfg C (mz_wi_ok hw)) (mz_bfg C hw2) (mz_bfg C hw3) a1 (Nat.le_trans g1 hR.1) (Nat.le_trans g2 hR.2) g3⟩
noncomputable def mz_s_na_int (F : Nat → Nat × Nat) (nL mo : Nat) (hs : List mz_Hr) (call : mz_Ca) (go : mz_Go) (e pc L : Nat) (st : List Nat) (M K n top nc ns : Nat) : Option mz_Rt :=
  mz_p1 st fun i st => bif mz_sm i then mz_f (mz_q i) fun N => bif mz_roomy n N top then mz_f (mz_fl (mz_rp N 1) M top) fun M => mz_f (mz_p K n (mz_mt 64 N top)) fun K => mz_f (mz_nr n) fun w => mz_f (Nat.succ n) fun n => mz_f (Nat.add top N) fun top => mz_f (Nat.succ nc) fun nc => mz_f (Nat.add ns N) fun ns => go (Nat.add pc 2) L (w :: st) M K n top nc ns else none else none
def mz_k_na_int (own mn : String) (cc : ByteArray) (mo : Nat) (ret : Option FieldType) (e pc : Nat) : Bool := decide (decode cc pc = .ok (.newarray .int, 2) ∧ mz_wi (mz_ez e) (.arrayClass .int))
theorem mz_t_na_int (mk : mz_Mk) : mz_Lk mk mz_s_na_int mz_k_na_int := by
  intro X own cc F nL mo d hs ret r call go e pc L st M K n top nc ns ⟨C, O, hnL, hR, hD, hE, hC, hG⟩ hk h
  obtain ⟨hd, hw⟩ := of_decide_eq_true hk
  unfold mz_s_na_int at h
  obtain ⟨i, l, rfl, hp⟩ := mz_p1_ok h
  have h := hp
  obtain ⟨a0, h⟩ := mz_ift h
  rw [mz_f_eq] at h
  obtain ⟨a1, h⟩ := mz_ift h
  rw [mz_f_eq, mz_f_eq, mz_f_eq, mz_f_eq, mz_f_eq, mz_f_eq, mz_f_eq, mz_rp_eq] at h
  obtain ⟨g1, g2, g3⟩ := hG _ _ _ _ _ _ _ _ _ h
  exact ⟨Nat.le_trans (Nat.le_succ _) g1, Nat.le_trans (Nat.le_add_right _ _) g2, mz_newarr (t := 0) (aty := .int) C hd (by decide) rfl (mz_bfg C (mz_wi_ok hw)) a0 a1 (Nat.le_trans g1 hR.1) (Nat.le_trans g2 hR.2) g3⟩
noncomputable def mz_s_na_long (F : Nat → Nat × Nat) (nL mo : Nat) (hs : List mz_Hr) (call : mz_Ca) (go : mz_Go) (e pc L : Nat) (st : List Nat) (M K n top nc ns : Nat) : Option mz_Rt :=
  mz_p1 st fun i st => bif mz_sm i then mz_f (mz_q i) fun N => bif mz_roomy n N top then mz_f (mz_fl (mz_rp N 3) M top) fun M => mz_f (mz_p K n (mz_mt 65 N top)) fun K => mz_f (mz_nr n) fun w => mz_f (Nat.succ n) fun n => mz_f (Nat.add top N) fun top => mz_f (Nat.succ nc) fun nc => mz_f (Nat.add ns N) fun ns => go (Nat.add pc 2) L (w :: st) M K n top nc ns else none else none
def mz_k_na_long (own mn : String) (cc : ByteArray) (mo : Nat) (ret : Option FieldType) (e pc : Nat) : Bool := decide (decode cc pc = .ok (.newarray .long, 2) ∧ mz_wi (mz_ez e) (.arrayClass .long))
theorem mz_t_na_long (mk : mz_Mk) : mz_Lk mk mz_s_na_long mz_k_na_long := by
  intro X own cc F nL mo d hs ret r call go e pc L st M K n top nc ns ⟨C, O, hnL, hR, hD, hE, hC, hG⟩ hk h
  obtain ⟨hd, hw⟩ := of_decide_eq_true hk
  unfold mz_s_na_long at h
  obtain ⟨i, l, rfl, hp⟩ := mz_p1_ok h
  have h := hp
  obtain ⟨a0, h⟩ := mz_ift h
  rw [mz_f_eq] at h
  obtain ⟨a1, h⟩ := mz_ift h
  rw [mz_f_eq, mz_f_eq, mz_f_eq, mz_f_eq, mz_f_eq, mz_f_eq, mz_f_eq, mz_rp_eq] at h
  obtain ⟨g1, g2, g3⟩ := hG _ _ _ _ _ _ _ _ _ h
  exact ⟨Nat.le_trans (Nat.le_succ _) g1, Nat.le_trans (Nat.le_add_right _ _) g2, mz_newarr (t := 1) (aty := .long) C hd (by decide) rfl (mz_bfg C (mz_wi_ok hw)) a0 a1 (Nat.le_trans g1 hR.1) (Nat.le_trans g2 hR.2) g3⟩
noncomputable def mz_s_na_char (F : Nat → Nat × Nat) (nL mo : Nat) (hs : List mz_Hr) (call : mz_Ca) (go : mz_Go) (e pc L : Nat) (st : List Nat) (M K n top nc ns : Nat) : Option mz_Rt :=
  mz_p1 st fun i st => bif mz_sm i then mz_f (mz_q i) fun N => bif mz_roomy n N top then mz_f (mz_fl (mz_rp N 1) M top) fun M => mz_f (mz_p K n (mz_mt 66 N top)) fun K => mz_f (mz_nr n) fun w => mz_f (Nat.succ n) fun n => mz_f (Nat.add top N) fun top => mz_f (Nat.succ nc) fun nc => mz_f (Nat.add ns N) fun ns => go (Nat.add pc 2) L (w :: st) M K n top nc ns else none else none
def mz_k_na_char (own mn : String) (cc : ByteArray) (mo : Nat) (ret : Option FieldType) (e pc : Nat) : Bool := decide (decode cc pc = .ok (.newarray .char, 2) ∧ mz_wi (mz_ez e) (.arrayClass .char))
theorem mz_t_na_char (mk : mz_Mk) : mz_Lk mk mz_s_na_char mz_k_na_char := by
  intro X own cc F nL mo d hs ret r call go e pc L st M K n top nc ns ⟨C, O, hnL, hR, hD, hE, hC, hG⟩ hk h
  obtain ⟨hd, hw⟩ := of_decide_eq_true hk
  unfold mz_s_na_char at h
  obtain ⟨i, l, rfl, hp⟩ := mz_p1_ok h
  have h := hp
  obtain ⟨a0, h⟩ := mz_ift h
  rw [mz_f_eq] at h
  obtain ⟨a1, h⟩ := mz_ift h
  rw [mz_f_eq, mz_f_eq, mz_f_eq, mz_f_eq, mz_f_eq, mz_f_eq, mz_f_eq, mz_rp_eq] at h
  obtain ⟨g1, g2, g3⟩ := hG _ _ _ _ _ _ _ _ _ h
  exact ⟨Nat.le_trans (Nat.le_succ _) g1, Nat.le_trans (Nat.le_add_right _ _) g2, mz_newarr (t := 2) (aty := .char) C hd (by decide) rfl (mz_bfg C (mz_wi_ok hw)) a0 a1 (Nat.le_trans g1 hR.1) (Nat.le_trans g2 hR.2) g3⟩
noncomputable def mz_s_na_bool (F : Nat → Nat × Nat) (nL mo : Nat) (hs : List mz_Hr) (call : mz_Ca) (go : mz_Go) (e pc L : Nat) (st : List Nat) (M K n top nc ns : Nat) : Option mz_Rt :=
  mz_p1 st fun i st => bif mz_sm i then mz_f (mz_q i) fun N => bif mz_roomy n N top then mz_f (mz_fl (mz_rp N 1) M top) fun M => mz_f (mz_p K n (mz_mt 67 N top)) fun K => mz_f (mz_nr n) fun w => mz_f (Nat.succ n) fun n => mz_f (Nat.add top N) fun top => mz_f (Nat.succ nc) fun nc => mz_f (Nat.add ns N) fun ns => go (Nat.add pc 2) L (w :: st) M K n top nc ns else none else none
def mz_k_na_bool (own mn : String) (cc : ByteArray) (mo : Nat) (ret : Option FieldType) (e pc : Nat) : Bool := decide (decode cc pc = .ok (.newarray .boolean, 2) ∧ mz_wi (mz_ez e) (.arrayClass .boolean))
theorem mz_t_na_bool (mk : mz_Mk) : mz_Lk mk mz_s_na_bool mz_k_na_bool := by
  intro X own cc F nL mo d hs ret r call go e pc L st M K n top nc ns ⟨C, O, hnL, hR, hD, hE, hC, hG⟩ hk h
  obtain ⟨hd, hw⟩ := of_decide_eq_true hk
  unfold mz_s_na_bool at h
  obtain ⟨i, l, rfl, hp⟩ := mz_p1_ok h
  have h := hp
  obtain ⟨a0, h⟩ := mz_ift h
  rw [mz_f_eq] at h
  obtain ⟨a1, h⟩ := mz_ift h
  rw [mz_f_eq, mz_f_eq, mz_f_eq, mz_f_eq, mz_f_eq, mz_f_eq, mz_f_eq, mz_rp_eq] at h
  obtain ⟨g1, g2, g3⟩ := hG _ _ _ _ _ _ _ _ _ h
  exact ⟨Nat.le_trans (Nat.le_succ _) g1, Nat.le_trans (Nat.le_add_right _ _) g2, mz_newarr (t := 3) (aty := .boolean) C hd (by decide) rfl (mz_bfg C (mz_wi_ok hw)) a0 a1 (Nat.le_trans g1 hR.1) (Nat.le_trans g2 hR.2) g3⟩
noncomputable def mz_s_na_double (F : Nat → Nat × Nat) (nL mo : Nat) (hs : List mz_Hr) (call : mz_Ca) (go : mz_Go) (e pc L : Nat) (st : List Nat) (M K n top nc ns : Nat) : Option mz_Rt :=
  mz_p1 st fun i st => bif mz_sm i then mz_f (mz_q i) fun N => bif mz_roomy n N top then mz_f (mz_fl (mz_rp N 8) M top) fun M => mz_f (mz_p K n (mz_mt 68 N top)) fun K => mz_f (mz_nr n) fun w => mz_f (Nat.succ n) fun n => mz_f (Nat.add top N) fun top => mz_f (Nat.succ nc) fun nc => mz_f (Nat.add ns N) fun ns => go (Nat.add pc 2) L (w :: st) M K n top nc ns else none else none
def mz_k_na_double (own mn : String) (cc : ByteArray) (mo : Nat) (ret : Option FieldType) (e pc : Nat) : Bool := decide (decode cc pc = .ok (.newarray .double, 2) ∧ mz_wi (mz_ez e) (.arrayClass .double))
theorem mz_t_na_double (mk : mz_Mk) : mz_Lk mk mz_s_na_double mz_k_na_double := by
  intro X own cc F nL mo d hs ret r call go e pc L st M K n top nc ns ⟨C, O, hnL, hR, hD, hE, hC, hG⟩ hk h
  obtain ⟨hd, hw⟩ := of_decide_eq_true hk
  unfold mz_s_na_double at h
  obtain ⟨i, l, rfl, hp⟩ := mz_p1_ok h
  have h := hp
  obtain ⟨a0, h⟩ := mz_ift h
  rw [mz_f_eq] at h
  obtain ⟨a1, h⟩ := mz_ift h
  rw [mz_f_eq, mz_f_eq, mz_f_eq, mz_f_eq, mz_f_eq, mz_f_eq, mz_f_eq, mz_rp_eq] at h
  obtain ⟨g1, g2, g3⟩ := hG _ _ _ _ _ _ _ _ _ h
  exact ⟨Nat.le_trans (Nat.le_succ _) g1, Nat.le_trans (Nat.le_add_right _ _) g2, mz_newarr (t := 4) (aty := .double) C hd (by decide) rfl (mz_bfg C (mz_wi_ok hw)) a0 a1 (Nat.le_trans g1 hR.1) (Nat.le_trans g2 hR.2) g3⟩
end
section
/-! THE STEPS, 4 -/
noncomputable def mz_s_anew (F : Nat → Nat × Nat) (nL mo : Nat) (hs : List mz_Hr) (call : mz_Ca) (go : mz_Go) (e pc L : Nat) (st : List Nat) (M K n top nc ns : Nat) : Option mz_Rt :=
  mz_p1 st fun i st => bif mz_sm i then mz_f (mz_q i) fun N => bif mz_roomy n N top then mz_f (mz_fl (mz_rp N 2) M top) fun M => mz_f (mz_p K n (mz_mt (Nat.add 64 (mz_ey e)) N top)) fun K => mz_f (mz_nr n) fun w => mz_f (Nat.succ n) fun n => mz_f (Nat.add top N) fun top => mz_f (Nat.succ nc) fun nc => mz_f (Nat.add ns N) fun ns => go (Nat.add pc 3) L (w :: st) M K n top nc ns else none else none
def mz_k_anew (own mn : String) (cc : ByteArray) (mo : Nat) (ret : Option FieldType) (e pc : Nat) : Bool := decide (decode cc pc = .ok (.anewarray (mz_ex e), 3) ∧ 5 ≤ mz_ey e ∧ mz_ey e < 9 ∧ mz_wi (mz_ez e) (.classLink own (mz_ex e) (mz_tn (mz_ey e))) ∧ Jvm.Cond.arrayOver (.object (mz_tn (mz_ey e))) ∈ lw_tbl)
theorem mz_t_anew (mk : mz_Mk) : mz_Lk mk mz_s_anew mz_k_anew := by
  intro X own cc F nL mo d hs ret r call go e pc L st M K n top nc ns ⟨C, O, hnL, hR, hD, hE, hC, hG⟩ hk h
  obtain ⟨hd, h5, h9, hw, hw2⟩ := of_decide_eq_true hk
  unfold mz_s_anew at h
  obtain ⟨i, l, rfl, hp⟩ := mz_p1_ok h
  have h := hp
  obtain ⟨a0, h⟩ := mz_ift h
  rw [mz_f_eq] at h
  obtain ⟨a1, h⟩ := mz_ift h
  rw [mz_f_eq, mz_f_eq, mz_f_eq, mz_f_eq, mz_f_eq, mz_f_eq, mz_f_eq, mz_rp_eq] at h
  obtain ⟨g1, g2, g3⟩ := hG _ _ _ _ _ _ _ _ _ h
  exact ⟨Nat.le_trans (Nat.le_succ _) g1, Nat.le_trans (Nat.le_add_right _ _) g2, mz_anewarr C hd h5 h9 (mz_tn_ok h5 h9) (mz_bfg C (mz_wi_ok hw)) (mz_bfa O hw2) a0 a1 (Nat.le_trans g1 hR.1) (Nat.le_trans g2 hR.2) g3⟩
noncomputable def mz_s_throw (F : Nat → Nat × Nat) (nL mo : Nat) (hs : List mz_Hr) (call : mz_Ca) (go : mz_Go) (e pc L : Nat) (st : List Nat) (M K n top nc ns : Nat) : Option mz_Rt :=
  bif Nat.beq mo 0 then bif mz_l4 st then mz_f (Nat.succ (Nat.mod (mz_ey e) 8)) fun k => mz_f (Nat.succ nc) fun nc => mz_f (Nat.add ns 6) fun ns => some (k, none, M, K, n, top, nc, ns) else none else none
def mz_k_throw (own mn : String) (cc : ByteArray) (mo : Nat) (ret : Option FieldType) (e pc : Nat) : Bool := (mz_xs[(Nat.mod (mz_ey e) 8)]?).elim false fun cls => decide ((decode cc pc = .ok (.new (mz_ex e), 3) ∧ decode cc (pc + 3) = .ok (.dup, 1) ∧ (((Nat.div (mz_ey e) 8) = 2 ∧ decode cc (pc + 4) = .ok (.ldc (Nat.mod (mz_ez e) 65536), 2)) ∨ ((Nat.div (mz_ey e) 8) = 3 ∧ decode cc (pc + 4) = .ok (.ldc_w (Nat.mod (mz_ez e) 65536), 3))) ∧ decode cc (pc + 4 + (Nat.div (mz_ey e) 8)) = .ok (.invokespecial (Nat.div (mz_ez e) 65536), 3) ∧ decode cc (pc + 7 + (Nat.div (mz_ey e) 8)) = .ok (.athrow, 1)) ∧ Bundle.fit cls = true ∧ (∀ w ∈ Jvm.Cond.classLink own (mz_ex e) cls :: Jvm.Cond.initialized cls :: vx_atS own (Nat.div (mz_ez e) 65536) cls mz_nms, (w ∈ mz_gG ∨ (w ∈ lw_tbl ∧ mz_nk w = true)) ∧ vx_ot w = true) ∧ ∃ q ∈ mz_msgs, q.1 = own ∧ q.2.1 = (Nat.mod (mz_ez e) 65536))
theorem mz_t_throw (mk : mz_Mk) : mz_Lk mk mz_s_throw mz_k_throw := by
  intro X own cc F nL mo d hs ret r call go e pc L st M K n top nc ns ⟨C, O, hnL, hR, hD, hE, hC, hG⟩ hk h
  obtain ⟨cls, hcls, hk⟩ := mz_elim hk
  obtain ⟨⟨d0, d3, dd, d6, d9⟩, hf, hw, ⟨o1, i1, text⟩, hm, rfl, hi⟩ := of_decide_eq_true hk
  change i1 = _ at hi
  subst hi
  unfold mz_s_throw at h
  obtain ⟨a1, h⟩ := mz_ift h
  obtain ⟨a2, h⟩ := mz_ift h
  rw [mz_f_eq, mz_f_eq, mz_f_eq] at h
  cases h
  obtain ⟨M0, K0, top0, E⟩ := hE.1 (mz_bq a1)
  have r3 : nc + 1 ≤ (mz_rm X).cells := hR.1
  have r4 : ns + 6 ≤ (mz_rm X).slots := hR.2
  exact ⟨Nat.le_succ _, Nat.le_add_right _ _, mz_throw C O E hcls hf hw hm (mz_l4_ok a2) d0 d3 dd d6 d9 ⟨by omega, by omega, r3, r4⟩⟩
noncomputable def mz_s_throwx (F : Nat → Nat × Nat) (nL mo : Nat) (hs : List mz_Hr) (call : mz_Ca) (go : mz_Go) (e pc L : Nat) (st : List Nat) (M K n top nc ns : Nat) : Option mz_Rt :=
  bif Nat.beq mo 0 then bif mz_l4 st then mz_f (Nat.succ (Nat.mod (mz_ey e) 8)) fun k => mz_f (Nat.succ nc) fun nc => mz_f (Nat.add ns 6) fun ns => some (k, none, M, K, n, top, nc, ns) else none else none
def mz_k_throwx (own mn : String) (cc : ByteArray) (mo : Nat) (ret : Option FieldType) (e pc : Nat) : Bool := (mz_xs[(Nat.mod (mz_ey e) 8)]?).elim false fun cls => decide ((decode cc pc = .ok (.new (mz_ex e), 3) ∧ decode cc (pc + 3) = .ok (.dup, 1) ∧ (((Nat.div (mz_ey e) 8) = 2 ∧ decode cc (pc + 4) = .ok (.ldc (Nat.mod (mz_ez e) 65536), 2)) ∨ ((Nat.div (mz_ey e) 8) = 3 ∧ decode cc (pc + 4) = .ok (.ldc_w (Nat.mod (mz_ez e) 65536), 3))) ∧ decode cc (pc + 4 + (Nat.div (mz_ey e) 8)) = .ok (.invokespecial (Nat.div (mz_ez e) 65536), 3) ∧ decode cc (pc + 4 + (Nat.div (mz_ey e) 8) + 3) = .ok (.athrow, 1)) ∧ Bundle.fit cls = true ∧ (∀ w ∈ Jvm.Cond.classLink own (mz_ex e) cls :: Jvm.Cond.initialized cls :: mz_atX own (Nat.div (mz_ez e) 65536) cls "java/lang/RuntimeException" mz_nix mz_nsx ["java/lang/Exception"], (w ∈ mz_gG ∨ (w ∈ lw_tbl ∧ mz_nk w = true)) ∧ vx_ot w = true) ∧ ∃ q ∈ mz_msgs, q.1 = own ∧ q.2.1 = (Nat.mod (mz_ez e) 65536))
theorem mz_t_throwx (mk : mz_Mk) : mz_Lk mk mz_s_throwx mz_k_throwx := by
  intro X own cc F nL mo d hs ret r call go e pc L st M K n top nc ns ⟨C, O, hnL, hR, hD, hE, hC, hG⟩ hk h
  obtain ⟨cls, hcls, hk⟩ := mz_elim hk
  obtain ⟨⟨d0, d3, dd, d6, d9⟩, hf, hw, ⟨o1, i1, text⟩, hm, rfl, hi⟩ := of_decide_eq_true hk
  change i1 = _ at hi
  subst hi
  unfold mz_s_throwx at h
  obtain ⟨a1, h⟩ := mz_ift h
  obtain ⟨a2, h⟩ := mz_ift h
  rw [mz_f_eq, mz_f_eq, mz_f_eq] at h
  cases h
  obtain ⟨M0, K0, top0, E⟩ := hE.1 (mz_bq a1)
  have r3 : nc + 1 ≤ (mz_rm X).cells := hR.1
  have r4 : ns + 6 ≤ (mz_rm X).slots := hR.2
  exact ⟨Nat.le_succ _, Nat.le_add_right _ _, mz_throwN C O E hcls hf mz_nsx0 mz_nsx1 mz_nsx2 mz_nsx5 hw hm (mz_l4_ok a2) d0 d3 dd d6 d9 ⟨by omega, by omega, r3, r4⟩⟩
noncomputable def mz_s_invs (F : Nat → Nat × Nat) (nL mo : Nat) (hs : List mz_Hr) (call : mz_Ca) (go : mz_Go) (e pc L : Nat) (st : List Nat) (M K n top nc ns : Nat) : Option mz_Rt :=
  mz_tk (Nat.mod (Nat.div (mz_ez e) 4096) 16) (fun as rest => bif mz_l4 rest then mz_bd (call (mz_ey e) as M K n top) fun r1 => mz_aft hs mo nL go 3 pc L rest nc ns r1 else none) st []
def mz_k_invs (mk : mz_Mk) (own mn : String) (cc : ByteArray) (mo : Nat) (ret : Option FieldType) (e pc : Nat) : Bool := decide (decode cc pc = .ok (.invokestatic (mz_ex e), 3) ∧ (mk (mz_ey e)).2.1 = (Nat.mod (Nat.div (mz_ez e) 4096) 16) ∧ (mk (mz_ey e)).2.2 = 0 ∧ mz_wi (Nat.mod (mz_ez e) 4096) (.methodLink own (mz_ex e) (mk (mz_ey e)).1.1))
theorem mz_t_invs (mk : mz_Mk) : mz_Lk mk mz_s_invs (mz_k_invs mk) := by
  intro X own cc F nL mo d hs ret r call go e pc L st M K n top nc ns ⟨C, O, hnL, hR, hD, hE, hC, hG⟩ hk h
  have hy : mz_Cy X mk cc own F nL mo d hs ret r call go := ⟨C, O, hnL, hR, hD, hE, hC, hG⟩
  have hk := of_decide_eq_true hk
  rcases hmk : mk (mz_ey e) with ⟨⟨y, by_, maxL, rt, tb, hh⟩, na, kd⟩
  rw [hmk] at hk
  obtain ⟨hd, hna, hkd, hw⟩ := hk
  change na = _ at hna
  change kd = 0 at hkd
  unfold mz_s_invs at h
  obtain ⟨as, rest, hlen, hst, h⟩ := mz_tk_ok _ _ _ h
  rw [List.append_nil] at h
  obtain ⟨a1, h⟩ := mz_ift h
  obtain ⟨r1, hcl, h⟩ := mz_bd_ok h
  obtain ⟨hSp, hcal⟩ := hC _ _ _ _ _ _ _ hcl
  rw [hmk] at hSp hcal
  obtain ⟨c1, c2, c3, c4, c5, c6, c7, c8, c9, c10⟩ := hcal
  rcases r1 with ⟨rx, rv, M1, K1, n1, top1, cc1, ss1⟩
  obtain ⟨⟨b1, b2⟩, kR, kX⟩ := mz_aft_ok hy h
  have hn : mz_na y as.length := by rw [hlen, ← hna]; exact c4
  have hcr : mz_CR X pc L st rest M K n top nc ns 3 (rx, rv, M1, K1, n1, top1, cc1, ss1) := by
    cases tb with
    | false => exact mz_crS C O hd hSp hst (mz_l4_ok a1) hn c3 c1 (mz_wi_ok hw) (c6 hkd) c2 ⟨by omega, by change maxL ≤ 40 at c5; omega, Nat.le_trans b1 hR.1, Nat.le_trans b2 hR.2⟩
    | true => exact mz_crSW C O hd hSp hst (mz_l4_ok a1) hn c3 c1 (mz_wi_ok hw) (c6 hkd) c2 ⟨by omega, by change maxL ≤ 40 at c5; omega, Nat.le_trans b1 hR.1, Nat.le_trans b2 hR.2⟩
  exact ⟨Nat.le_trans (Nat.le_add_right _ _) b1, Nat.le_trans (Nat.le_add_right _ _) b2, mz_called C (fun w hw => by rw [hst]; simp [hw]) hcr kR kX⟩
noncomputable def mz_s_invv (F : Nat → Nat × Nat) (nL mo : Nat) (hs : List mz_Hr) (call : mz_Ca) (go : mz_Go) (e pc L : Nat) (st : List Nat) (M K n top nc ns : Nat) : Option mz_Rt :=
  mz_tk (Nat.mod (Nat.div (mz_ez e) 4096) 16) (fun as rest => mz_p1 rest fun x rest => bif mz_l4 rest then bif mz_ref n x then bif Nat.beq (mz_ct K (mz_k x)) (Nat.div (mz_ez e) 65536) then mz_bd (call (mz_ey e) (x :: as) M K n top) fun r1 => mz_aft hs mo nL go 3 pc L rest nc ns r1 else none else none else none) st []
def mz_k_invv (mk : mz_Mk) (own mn : String) (cc : ByteArray) (mo : Nat) (ret : Option FieldType) (e pc : Nat) : Bool := (vwCl[(Nat.div (mz_ez e) 65536)]?).elim false fun q => decide (decode cc pc = .ok (.invokevirtual (mz_ex e), 3) ∧ (mk (mz_ey e)).2.1 = (Nat.mod (Nat.div (mz_ez e) 4096) 16) ∧ (mk (mz_ey e)).2.2 = 1 ∧ mz_wi (Nat.mod (mz_ez e) 4096) (.methodLink own (mz_ex e) (mk (mz_ey e)).1.1) ∧ (Nat.div (mz_ez e) 65536) < 64 ∧ q.1 = (mk (mz_ey e)).1.1.cls)
theorem mz_t_invv (mk : mz_Mk) : mz_Lk mk mz_s_invv (mz_k_invv mk) := by
  intro X own cc F nL mo d hs ret r call go e pc L st M K n top nc ns ⟨C, O, hnL, hR, hD, hE, hC, hG⟩ hk h
  have hy : mz_Cy X mk cc own F nL mo d hs ret r call go := ⟨C, O, hnL, hR, hD, hE, hC, hG⟩
  obtain ⟨⟨C0, T, N⟩, hc, hk⟩ := mz_elim hk
  have hk := of_decide_eq_true hk
  rcases hmk : mk (mz_ey e) with ⟨⟨y, by_, maxL, rt, tb, hh⟩, na, kd⟩
  rw [hmk] at hk
  obtain ⟨hd, hna, hkd, hw, hci, hcn⟩ := hk
  change na = _ at hna
  change kd = 1 at hkd
  change C0 = y.cls at hcn
  unfold mz_s_invv at h
  obtain ⟨as, rest2, hlen, hst, h⟩ := mz_tk_ok _ _ _ h
  rw [List.append_nil] at h
  obtain ⟨x, rest, rfl, hp⟩ := mz_p1_ok h
  have h := hp
  obtain ⟨a1, h⟩ := mz_ift h
  obtain ⟨a2, h⟩ := mz_ift h
  obtain ⟨a3, h⟩ := mz_ift h
  obtain ⟨r1, hcl, h⟩ := mz_bd_ok h
  obtain ⟨hSp, hcal⟩ := hC _ _ _ _ _ _ _ hcl
  rw [hmk] at hSp hcal
  obtain ⟨c1, c2, c3, c4, c5, c6, c7, c8, c9, c10⟩ := hcal
  rcases r1 with ⟨rx, rv, M1, K1, n1, top1, cc1, ss1⟩
  obtain ⟨⟨b1, b2⟩, kR, kX⟩ := mz_aft_ok hy h
  have hn : mz_na y as.length := by rw [hlen, ← hna]; exact c4
  obtain ⟨c71, c72, c73⟩ := c7 hkd
  change tb = false at c71
  subst c71
  have hrc := mz_Rc_new (M := M) (top := top) C a2 (mz_bq a3) hci hc
  rw [hcn] at hrc
  have hcr : mz_CR X pc L st rest M K n top nc ns 3 (rx, rv, M1, K1, n1, top1, cc1, ss1) := mz_crV C O hd hSp hst (mz_l4_ok a1) hn c3 hrc c1 (mz_wi_ok hw) c72 c73 c2 ⟨by omega, by change maxL ≤ 40 at c5; omega, Nat.le_trans b1 hR.1, Nat.le_trans b2 hR.2⟩
  exact ⟨Nat.le_trans (Nat.le_add_right _ _) b1, Nat.le_trans (Nat.le_add_right _ _) b2, mz_called C (fun w hw => by rw [hst]; simp [hw]) hcr kR kX⟩
noncomputable def mz_s_invt (F : Nat → Nat × Nat) (nL mo : Nat) (hs : List mz_Hr) (call : mz_Ca) (go : mz_Go) (e pc L : Nat) (st : List Nat) (M K n top nc ns : Nat) : Option mz_Rt :=
  mz_tk (Nat.mod (Nat.div (mz_ez e) 4096) 16) (fun as rest => mz_p1 rest fun x rest => bif mz_l4 rest then mz_sj x fun _ => mz_bd (call (mz_ey e) (x :: as) M K n top) fun r1 => mz_aft hs mo nL go 3 pc L rest nc ns r1 else none) st []
def mz_k_invt (mk : mz_Mk) (own mn : String) (cc : ByteArray) (mo : Nat) (ret : Option FieldType) (e pc : Nat) : Bool := decide (decode cc pc = .ok (.invokevirtual (mz_ex e), 3) ∧ (mk (mz_ey e)).2.1 = (Nat.mod (Nat.div (mz_ez e) 4096) 16) ∧ (mk (mz_ey e)).2.2 = 1 ∧ mz_wi (Nat.mod (mz_ez e) 4096) (.methodLink own (mz_ex e) (mk (mz_ey e)).1.1) ∧ (mk (mz_ey e)).1.1.cls = "java/lang/String")
theorem mz_t_invt (mk : mz_Mk) : mz_Lk mk mz_s_invt (mz_k_invt mk) := by
  intro X own cc F nL mo d hs ret r call go e pc L st M K n top nc ns ⟨C, O, hnL, hR, hD, hE, hC, hG⟩ hk h
  have hy : mz_Cy X mk cc own F nL mo d hs ret r call go := ⟨C, O, hnL, hR, hD, hE, hC, hG⟩
  have hk := of_decide_eq_true hk
  rcases hmk : mk (mz_ey e) with ⟨⟨y, by_, maxL, rt, tb, hh⟩, na, kd⟩
  rw [hmk] at hk
  obtain ⟨hd, hna, hkd, hw, hcn⟩ := hk
  change na = _ at hna
  change kd = 1 at hkd
  change y.cls = _ at hcn
  unfold mz_s_invt at h
  obtain ⟨as, rest2, hlen, hst, h⟩ := mz_tk_ok _ _ _ h
  rw [List.append_nil] at h
  obtain ⟨x, rest, rfl, hp⟩ := mz_p1_ok h
  have h := hp
  obtain ⟨a1, h⟩ := mz_ift h
  obtain ⟨j, q, hx, hj, h⟩ := mz_sj_ok h
  obtain ⟨r1, hcl, h⟩ := mz_bd_ok h
  obtain ⟨hSp, hcal⟩ := hC _ _ _ _ _ _ _ hcl
  rw [hmk] at hSp hcal
  obtain ⟨c1, c2, c3, c4, c5, c6, c7, c8, c9, c10⟩ := hcal
  rcases r1 with ⟨rx, rv, M1, K1, n1, top1, cc1, ss1⟩
  obtain ⟨⟨b1, b2⟩, kR, kX⟩ := mz_aft_ok hy h
  have hn : mz_na y as.length := by rw [hlen, ← hna]; exact c4
  obtain ⟨c71, c72, c73⟩ := c7 hkd
  change tb = false at c71
  subst c71
  have hrc := mz_Rc_str (X := X) (M := M) (K := K) (n := n) (top := top) O hj
  rw [← hcn, ← hx] at hrc
  have hcr : mz_CR X pc L st rest M K n top nc ns 3 (rx, rv, M1, K1, n1, top1, cc1, ss1) := mz_crV C O hd hSp hst (mz_l4_ok a1) hn c3 hrc c1 (mz_wi_ok hw) c72 c73 c2 ⟨by omega, by change maxL ≤ 40 at c5; omega, Nat.le_trans b1 hR.1, Nat.le_trans b2 hR.2⟩
  exact ⟨Nat.le_trans (Nat.le_add_right _ _) b1, Nat.le_trans (Nat.le_add_right _ _) b2, mz_called C (fun w hw => by rw [hst]; simp [hw]) hcr kR kX⟩
noncomputable def mz_s_invi (F : Nat → Nat × Nat) (nL mo : Nat) (hs : List mz_Hr) (call : mz_Ca) (go : mz_Go) (e pc L : Nat) (st : List Nat) (M K n top nc ns : Nat) : Option mz_Rt :=
  mz_tk (Nat.mod (Nat.div (mz_ez e) 4096) 16) (fun as rest => mz_p1 rest fun x rest => bif mz_l4 rest then bif mz_ref n x then mz_bd (call (mz_ey e) (x :: as) M K n top) fun r1 => bif Nat.beq r1.1 0 then mz_aft hs mo nL go 3 pc L rest nc ns r1 else none else none else none) st []
def mz_k_invi (mk : mz_Mk) (own mn : String) (cc : ByteArray) (mo : Nat) (ret : Option FieldType) (e pc : Nat) : Bool := decide (decode cc pc = .ok (.invokespecial (mz_ex e), 3) ∧ (mk (mz_ey e)).2.1 = (Nat.mod (Nat.div (mz_ez e) 4096) 16) ∧ (mk (mz_ey e)).2.2 = 2 ∧ mz_wi (Nat.mod (mz_ez e) 4096) (.methodLink own (mz_ex e) (mk (mz_ey e)).1.1))
theorem mz_t_invi (mk : mz_Mk) : mz_Lk mk mz_s_invi (mz_k_invi mk) := by
  intro X own cc F nL mo d hs ret r call go e pc L st M K n top nc ns ⟨C, O, hnL, hR, hD, hE, hC, hG⟩ hk h
  have hy : mz_Cy X mk cc own F nL mo d hs ret r call go := ⟨C, O, hnL, hR, hD, hE, hC, hG⟩
  have hk := of_decide_eq_true hk
  rcases hmk : mk (mz_ey e) with ⟨⟨y, by_, maxL, rt, tb, hh⟩, na, kd⟩
  rw [hmk] at hk
  obtain ⟨hd, hna, hkd, hw⟩ := hk
  change na = _ at hna
  change kd = 2 at hkd
  unfold mz_s_invi at h
  obtain ⟨as, rest2, hlen, hst, h⟩ := mz_tk_ok _ _ _ h
  rw [List.append_nil] at h
  obtain ⟨x, rest, rfl, hp⟩ := mz_p1_ok h
  have h := hp
  obtain ⟨a1, h⟩ := mz_ift h
  obtain ⟨a2, h⟩ := mz_ift h
  obtain ⟨r1, hcl, h⟩ := mz_bd_ok h
  obtain ⟨ar0, h⟩ := mz_ift h
  obtain ⟨hSp, hcal⟩ := hC _ _ _ _ _ _ _ hcl
  rw [hmk] at hSp hcal
  obtain ⟨c1, c2, c3, c4, c5, c6, c7, c8, c9, c10⟩ := hcal
  rcases r1 with ⟨rx, rv, M1, K1, n1, top1, cc1, ss1⟩
  obtain ⟨⟨b1, b2⟩, kR, kX⟩ := mz_aft_ok hy h
  have hn : mz_na y as.length := by rw [hlen, ← hna]; exact c4
  obtain ⟨c71, c72, c73, c74⟩ := c8 hkd
  change tb = false at c71
  change rt = none at c74
  subst c71
  subst c74
  have hcr : mz_CR X pc L st rest M K n top nc ns 3 (rx, rv, M1, K1, n1, top1, cc1, ss1) := mz_crI C O hd (mz_bq ar0) hSp hst (mz_l4_ok a1) hn c3 a2 c73 c1 (mz_wi_ok hw) c72 c2 ⟨by omega, by change maxL ≤ 40 at c5; omega, Nat.le_trans b1 hR.1, Nat.le_trans b2 hR.2⟩
  exact ⟨Nat.le_trans (Nat.le_add_right _ _) b1, Nat.le_trans (Nat.le_add_right _ _) b2, mz_called C (fun w hw => by rw [hst]; simp [hw]) hcr kR kX⟩
noncomputable def mz_s_invn (F : Nat → Nat × Nat) (nL mo : Nat) (hs : List mz_Hr) (call : mz_Ca) (go : mz_Go) (e pc L : Nat) (st : List Nat) (M K n top nc ns : Nat) : Option mz_Rt :=
  mz_tk (Nat.mod (Nat.div (mz_ez e) 4096) 16) (fun as rest => mz_p1 rest fun x rest => bif mz_l4 rest then bif mz_ref n x then mz_bd (call (mz_ey e) (x :: as) M K n top) fun r1 => bif Nat.beq r1.1 0 then mz_aft hs mo nL go 3 pc L rest nc ns r1 else none else none else none) st []
def mz_k_invn (mk : mz_Mk) (own mn : String) (cc : ByteArray) (mo : Nat) (ret : Option FieldType) (e pc : Nat) : Bool := decide (decode cc pc = .ok (.invokespecial (mz_ex e), 3) ∧ (mk (mz_ey e)).2.1 = (Nat.mod (Nat.div (mz_ez e) 4096) 16) ∧ (mk (mz_ey e)).2.2 = 2 ∧ lw_tbl[(Nat.mod (mz_ez e) 4096)]? = some (.methodLinkNest own (mz_ex e) (mk (mz_ey e)).1.1 "Hundredward"))
theorem mz_t_invn (mk : mz_Mk) : mz_Lk mk mz_s_invn (mz_k_invn mk) := by
  intro X own cc F nL mo d hs ret r call go e pc L st M K n top nc ns ⟨C, O, hnL, hR, hD, hE, hC, hG⟩ hk h
  have hy : mz_Cy X mk cc own F nL mo d hs ret r call go := ⟨C, O, hnL, hR, hD, hE, hC, hG⟩
  have hk := of_decide_eq_true hk
  rcases hmk : mk (mz_ey e) with ⟨⟨y, by_, maxL, rt, tb, hh⟩, na, kd⟩
  rw [hmk] at hk
  obtain ⟨hd, hna, hkd, hw⟩ := hk
  change na = _ at hna
  change kd = 2 at hkd
  unfold mz_s_invn at h
  obtain ⟨as, rest2, hlen, hst, h⟩ := mz_tk_ok _ _ _ h
  rw [List.append_nil] at h
  obtain ⟨x, rest, rfl, hp⟩ := mz_p1_ok h
  have h := hp
  obtain ⟨a1, h⟩ := mz_ift h
  obtain ⟨a2, h⟩ := mz_ift h
  obtain ⟨r1, hcl, h⟩ := mz_bd_ok h
  obtain ⟨ar0, h⟩ := mz_ift h
  obtain ⟨hSp, hcal⟩ := hC _ _ _ _ _ _ _ hcl
  rw [hmk] at hSp hcal
  obtain ⟨c1, c2, c3, c4, c5, c6, c7, c8, c9, c10⟩ := hcal
  rcases r1 with ⟨rx, rv, M1, K1, n1, top1, cc1, ss1⟩
  obtain ⟨⟨b1, b2⟩, kR, kX⟩ := mz_aft_ok hy h
  have hn : mz_na y as.length := by rw [hlen, ← hna]; exact c4
  obtain ⟨c71, c72, c73, c74⟩ := c8 hkd
  change tb = false at c71
  change rt = none at c74
  subst c71
  subst c74
  have hcr : mz_CR X pc L st rest M K n top nc ns 3 (rx, rv, M1, K1, n1, top1, cc1, ss1) := mz_crIN C O hd (mz_bq ar0) hSp hst (mz_l4_ok a1) hn c3 a2 c73 c1 (List.mem_of_getElem? hw) c72 c2 ⟨by omega, by change maxL ≤ 40 at c5; omega, Nat.le_trans b1 hR.1, Nat.le_trans b2 hR.2⟩
  exact ⟨Nat.le_trans (Nat.le_add_right _ _) b1, Nat.le_trans (Nat.le_add_right _ _) b2, mz_called C (fun w hw => by rw [hst]; simp [hw]) hcr kR kX⟩
noncomputable def mz_s_invh (F : Nat → Nat × Nat) (nL mo : Nat) (hs : List mz_Hr) (call : mz_Ca) (go : mz_Go) (e pc L : Nat) (st : List Nat) (M K n top nc ns : Nat) : Option mz_Rt :=
  mz_tk (Nat.mod (Nat.div (mz_ez e) 4096) 16) (fun as rest => mz_p1 rest fun x rest => bif mz_l4 rest then bif mz_ref n x then bif Nat.beq (mz_ct K (mz_k x)) (Nat.div (mz_ez e) 65536) then mz_bd (call (mz_ey e) (x :: as) M K n top) fun r1 => bif Nat.beq r1.1 0 then mz_aft hs mo nL go 5 pc L rest nc ns r1 else none else none else none else none) st []
def mz_k_invh (mk : mz_Mk) (own mn : String) (cc : ByteArray) (mo : Nat) (ret : Option FieldType) (e pc : Nat) : Bool := (vwCl[(Nat.div (mz_ez e) 65536)]?).elim false fun q => decide (decode cc pc = .ok (.invokeinterface (mz_ex e) 1, 5) ∧ (mk (mz_ey e)).2.1 = (Nat.mod (Nat.div (mz_ez e) 4096) 16) ∧ (mk (mz_ey e)).2.2 = 3 ∧ mz_wi (Nat.mod (mz_ez e) 4096) (.methodLink own (mz_ex e) mz_hasN) ∧ (Nat.div (mz_ez e) 65536) < 64 ∧ q.1 = mz_itr)
theorem mz_t_invh (mk : mz_Mk) : mz_Lk mk mz_s_invh (mz_k_invh mk) := by
  intro X own cc F nL mo d hs ret r call go e pc L st M K n top nc ns ⟨C, O, hnL, hR, hD, hE, hC, hG⟩ hk h
  have hy : mz_Cy X mk cc own F nL mo d hs ret r call go := ⟨C, O, hnL, hR, hD, hE, hC, hG⟩
  obtain ⟨⟨C0, T, N⟩, hc, hk⟩ := mz_elim hk
  have hk := of_decide_eq_true hk
  rcases hmk : mk (mz_ey e) with ⟨⟨y, by_, maxL, rt, tb, hh⟩, na, kd⟩
  rw [hmk] at hk
  obtain ⟨hd, hna, hkd, hw, hci, hcn⟩ := hk
  change na = _ at hna
  change kd = 3 at hkd
  change C0 = mz_itr at hcn
  subst hcn
  unfold mz_s_invh at h
  obtain ⟨as, rest2, hlen, hst, h⟩ := mz_tk_ok _ _ _ h
  rw [List.append_nil] at h
  obtain ⟨x, rest, rfl, hp⟩ := mz_p1_ok h
  have h := hp
  obtain ⟨a1, h⟩ := mz_ift h
  obtain ⟨a2, h⟩ := mz_ift h
  obtain ⟨a3, h⟩ := mz_ift h
  obtain ⟨r1, hcl, h⟩ := mz_bd_ok h
  obtain ⟨ar0, h⟩ := mz_ift h
  obtain ⟨hSp, hcal⟩ := hC _ _ _ _ _ _ _ hcl
  rw [hmk] at hSp hcal
  obtain ⟨c1, c2, c3, c4, c5, c6, c7, c8, c9, c10⟩ := hcal
  rcases r1 with ⟨rx, rv, M1, K1, n1, top1, cc1, ss1⟩
  obtain ⟨⟨b1, b2⟩, kR, kX⟩ := mz_aft_ok hy h
  obtain ⟨c71, c72, c73, c74, c75⟩ := c9 hkd
  have hn : mz_na mz_hasN as.length := by rw [hlen, ← hna]; exact c75
  change tb = false at c71
  subst c71
  have hcr : mz_CR X pc L st rest M K n top nc ns 5 (rx, rv, M1, K1, n1, top1, cc1, ss1) := mz_crF C O hd (mz_bq ar0) hSp hst (mz_l4_ok a1) hn (by decide +kernel) (Or.inl ⟨rfl, c73⟩) a2 (mz_bq a3) hci hc c1 (mz_wi_ok hw) c72 c74 c2 ⟨by omega, by change maxL ≤ 40 at c5; omega, Nat.le_trans b1 hR.1, Nat.le_trans b2 hR.2⟩
  exact ⟨Nat.le_trans (Nat.le_add_right _ _) b1, Nat.le_trans (Nat.le_add_right _ _) b2, mz_called C (fun w hw => by rw [hst]; simp [hw]) hcr kR kX⟩
noncomputable def mz_s_invx (F : Nat → Nat × Nat) (nL mo : Nat) (hs : List mz_Hr) (call : mz_Ca) (go : mz_Go) (e pc L : Nat) (st : List Nat) (M K n top nc ns : Nat) : Option mz_Rt :=
  mz_tk (Nat.mod (Nat.div (mz_ez e) 4096) 16) (fun as rest => mz_p1 rest fun x rest => bif mz_l4 rest then bif mz_ref n x then bif Nat.beq (mz_ct K (mz_k x)) (Nat.div (mz_ez e) 65536) then mz_bd (call (mz_ey e) (x :: as) M K n top) fun r1 => bif Nat.beq r1.1 0 then mz_aft hs mo nL go 5 pc L rest nc ns r1 else none else none else none else none) st []
def mz_k_invx (mk : mz_Mk) (own mn : String) (cc : ByteArray) (mo : Nat) (ret : Option FieldType) (e pc : Nat) : Bool := (vwCl[(Nat.div (mz_ez e) 65536)]?).elim false fun q => decide (decode cc pc = .ok (.invokeinterface (mz_ex e) 1, 5) ∧ (mk (mz_ey e)).2.1 = (Nat.mod (Nat.div (mz_ez e) 4096) 16) ∧ (mk (mz_ey e)).2.2 = 4 ∧ mz_wi (Nat.mod (mz_ez e) 4096) (.methodLink own (mz_ex e) mz_nextN) ∧ (Nat.div (mz_ez e) 65536) < 64 ∧ q.1 = mz_itr)
theorem mz_t_invx (mk : mz_Mk) : mz_Lk mk mz_s_invx (mz_k_invx mk) := by
  intro X own cc F nL mo d hs ret r call go e pc L st M K n top nc ns ⟨C, O, hnL, hR, hD, hE, hC, hG⟩ hk h
  have hy : mz_Cy X mk cc own F nL mo d hs ret r call go := ⟨C, O, hnL, hR, hD, hE, hC, hG⟩
  obtain ⟨⟨C0, T, N⟩, hc, hk⟩ := mz_elim hk
  have hk := of_decide_eq_true hk
  rcases hmk : mk (mz_ey e) with ⟨⟨y, by_, maxL, rt, tb, hh⟩, na, kd⟩
  rw [hmk] at hk
  obtain ⟨hd, hna, hkd, hw, hci, hcn⟩ := hk
  change na = _ at hna
  change kd = 4 at hkd
  change C0 = mz_itr at hcn
  subst hcn
  unfold mz_s_invx at h
  obtain ⟨as, rest2, hlen, hst, h⟩ := mz_tk_ok _ _ _ h
  rw [List.append_nil] at h
  obtain ⟨x, rest, rfl, hp⟩ := mz_p1_ok h
  have h := hp
  obtain ⟨a1, h⟩ := mz_ift h
  obtain ⟨a2, h⟩ := mz_ift h
  obtain ⟨a3, h⟩ := mz_ift h
  obtain ⟨r1, hcl, h⟩ := mz_bd_ok h
  obtain ⟨ar0, h⟩ := mz_ift h
  obtain ⟨hSp, hcal⟩ := hC _ _ _ _ _ _ _ hcl
  rw [hmk] at hSp hcal
  obtain ⟨c1, c2, c3, c4, c5, c6, c7, c8, c9, c10⟩ := hcal
  rcases r1 with ⟨rx, rv, M1, K1, n1, top1, cc1, ss1⟩
  obtain ⟨⟨b1, b2⟩, kR, kX⟩ := mz_aft_ok hy h
  obtain ⟨c71, c72, c73, c74, c75⟩ := c10 hkd
  have hn : mz_na mz_nextN as.length := by rw [hlen, ← hna]; exact c75
  change tb = false at c71
  subst c71
  have hcr : mz_CR X pc L st rest M K n top nc ns 5 (rx, rv, M1, K1, n1, top1, cc1, ss1) := mz_crF C O hd (mz_bq ar0) hSp hst (mz_l4_ok a1) hn (by decide +kernel) (Or.inr ⟨rfl, c73⟩) a2 (mz_bq a3) hci hc c1 (mz_wi_ok hw) c72 c74 c2 ⟨by omega, by change maxL ≤ 40 at c5; omega, Nat.le_trans b1 hR.1, Nat.le_trans b2 hR.2⟩
  exact ⟨Nat.le_trans (Nat.le_add_right _ _) b1, Nat.le_trans (Nat.le_add_right _ _) b2, mz_called C (fun w hw => by rw [hst]; simp [hw]) hcr kR kX⟩
noncomputable def mz_s_oinit (F : Nat → Nat × Nat) (nL mo : Nat) (hs : List mz_Hr) (call : mz_Ca) (go : mz_Go) (e pc L : Nat) (st : List Nat) (M K n top nc ns : Nat) : Option mz_Rt :=
  mz_p1 st fun x l => bif mz_ref n x then bif mz_l4 l then go (Nat.add pc 3) L l M K n top nc ns else none else none
def mz_k_oinit (own mn : String) (cc : ByteArray) (mo : Nat) (ret : Option FieldType) (e pc : Nat) : Bool := decide (decode cc pc = .ok (.invokespecial (mz_ex e), 3) ∧ mz_wi (mz_ez e) (.methodLink own (mz_ex e) Lib.objectInit) ∧ Jvm.Cond.instanceMethod Lib.objectInit ∈ mz_gG ∧ Jvm.Cond.code Lib.objectInit ⟨#[0xb1]⟩ 1 none ∈ mz_gG)
theorem mz_t_oinit (mk : mz_Mk) : mz_Lk mk mz_s_oinit mz_k_oinit := by
  intro X own cc F nL mo d hs ret r call go e pc L st M K n top nc ns ⟨C, O, hnL, hR, hD, hE, hC, hG⟩ hk h
  obtain ⟨hd, hw, hw2, hw3⟩ := of_decide_eq_true hk
  unfold mz_s_oinit at h
  obtain ⟨x, l, rfl, hp⟩ := mz_p1_ok h
  have h := hp
  obtain ⟨a1, h⟩ := mz_ift h
  obtain ⟨a2, h⟩ := mz_ift h
  obtain ⟨g1, g2, g3⟩ := hG _ _ _ _ _ _ _ _ _ h
  exact ⟨g1, g2, mz_objinit C hd a1 (mz_l4_ok a2) (mz_wi_ok hw) hw2 hw3 ⟨by omega, by omega⟩ g3⟩
noncomputable def mz_s_copy (F : Nat → Nat × Nat) (nL mo : Nat) (hs : List mz_Hr) (call : mz_Ca) (go : mz_Go) (e pc L : Nat) (st : List Nat) (M K n top nc ns : Nat) : Option mz_Rt :=
  mz_p1 st fun w l => mz_p1 l fun i1 l => mz_p1 l fun x1 l => mz_p1 l fun i0 l => mz_p1 l fun x0 l => bif mz_l4 l then bif mz_ref n x0 then bif mz_ref n x1 then bif Nat.beq (mz_ct K (mz_k x0)) 64 then bif Nat.beq (mz_ct K (mz_k x1)) 64 then bif mz_sm i0 then bif mz_sm i1 then bif mz_sm w then bif Nat.ble (Nat.add (mz_q i0) (mz_q w)) (mz_cn K (mz_k x0)) then bif Nat.ble (Nat.add (mz_q i1) (mz_q w)) (mz_cn K (mz_k x1)) then mz_f (mz_fl (mz_rd M (mz_q w) (Nat.add (mz_cb K (mz_k x0)) (mz_q i0))) M (Nat.add (mz_cb K (mz_k x1)) (mz_q i1))) fun M => go (Nat.add pc 3) L l M K n top nc ns else none else none else none else none else none else none else none else none else none else none
def mz_k_copy (own mn : String) (cc : ByteArray) (mo : Nat) (ret : Option FieldType) (e pc : Nat) : Bool := decide (decode cc pc = .ok (.invokestatic (mz_ex e), 3) ∧ mz_wi (mz_ez e) (.methodLink own (mz_ex e) arraycopyName) ∧ Jvm.Cond.native arraycopyName ∈ mz_gG ∧ Jvm.Cond.static arraycopyName ∈ mz_gG ∧ Jvm.Cond.initialized "java/lang/System" ∈ mz_gG)
theorem mz_t_copy (mk : mz_Mk) : mz_Lk mk mz_s_copy mz_k_copy := by
  intro X own cc F nL mo d hs ret r call go e pc L st M K n top nc ns ⟨C, O, hnL, hR, hD, hE, hC, hG⟩ hk h
  obtain ⟨hd, hw, hw2, hw3, hw4⟩ := of_decide_eq_true hk
  unfold mz_s_copy at h
  obtain ⟨w, l, rfl, h1⟩ := mz_p1_ok h
  obtain ⟨i1, l, rfl, h2⟩ := mz_p1_ok h1
  obtain ⟨x1, l, rfl, h3⟩ := mz_p1_ok h2
  obtain ⟨i0, l, rfl, h4⟩ := mz_p1_ok h3
  obtain ⟨x0, l, rfl, h5⟩ := mz_p1_ok h4
  have h := h5
  obtain ⟨b0, h⟩ := mz_ift h
  obtain ⟨b1, h⟩ := mz_ift h
  obtain ⟨b2, h⟩ := mz_ift h
  obtain ⟨b3, h⟩ := mz_ift h
  obtain ⟨b4, h⟩ := mz_ift h
  obtain ⟨b5, h⟩ := mz_ift h
  obtain ⟨b6, h⟩ := mz_ift h
  obtain ⟨b7, h⟩ := mz_ift h
  obtain ⟨b8, h⟩ := mz_ift h
  obtain ⟨b9, h⟩ := mz_ift h
  rw [mz_f_eq] at h
  obtain ⟨g1, g2, g3⟩ := hG _ _ _ _ _ _ _ _ _ h
  have hn5 : nativeFrameWords "java/lang/System" "arraycopy" 5 ≤ 100 := by decide +kernel
  exact ⟨g1, g2, mz_copy C hd (mz_wi_ok hw) hw2 hw3 hw4 b1 b2 (mz_bq b3) (mz_bq b4) b5 b6 b7 (mz_bl b8) (mz_bl b9) (mz_l4_ok b0) ⟨by omega, by omega⟩ g3⟩
noncomputable def mz_s_mmax (F : Nat → Nat × Nat) (nL mo : Nat) (hs : List mz_Hr) (call : mz_Ca) (go : mz_Go) (e pc L : Nat) (st : List Nat) (M K n top nc ns : Nat) : Option mz_Rt :=
  mz_p1 st fun y l => mz_p1 l fun x l => bif mz_l4 l then mz_lt F x y fun b => mz_f (bif b then y else x) fun w => go (Nat.add pc 3) L (w :: l) M K n top nc ns else none
def mz_k_mmax (own mn : String) (cc : ByteArray) (mo : Nat) (ret : Option FieldType) (e pc : Nat) : Bool := decide (decode cc pc = .ok (.invokestatic (mz_ex e), 3) ∧ mz_wi (mz_ez e) (.methodLink own (mz_ex e) Lib.Math.max.name) ∧ Jvm.Cond.static Lib.Math.max.name ∈ mz_gG ∧ Jvm.Cond.initialized "java/lang/Math" ∈ mz_gG ∧ Jvm.Cond.code Lib.Math.max.name Lib.Math.max.code 2 (some .int) ∈ mz_gG)
theorem mz_t_mmax (mk : mz_Mk) : mz_Lk mk mz_s_mmax mz_k_mmax := by
  intro X own cc F nL mo d hs ret r call go e pc L st M K n top nc ns ⟨C, O, hnL, hR, hD, hE, hC, hG⟩ hk h
  obtain ⟨hd, hw, hw2, hw3, hw4⟩ := of_decide_eq_true hk
  have hF : mz_F F (mz_rho X) := mz_CF C
  unfold mz_s_mmax at h
  obtain ⟨y, l, rfl, hp⟩ := mz_p1_ok h
  obtain ⟨x, l, rfl, hq⟩ := mz_p1_ok hp
  have h := hq
  obtain ⟨a0, h⟩ := mz_ift h
  obtain ⟨a1, a2, b, h, a3⟩ := mz_lt_ok hF h
  rw [mz_f_eq] at h
  obtain ⟨g1, g2, g3⟩ := hG _ _ _ _ _ _ _ _ _ h
  exact ⟨g1, g2, mz_mmaxG C hd (mz_wi_ok hw) hw2 hw3 hw4 a1 a2 (mz_pickI a1 a2) (mz_pick a3) (mz_l4_ok a0) ⟨by omega, by omega, Nat.le_trans g1 hR.1, Nat.le_trans g2 hR.2⟩ g3⟩
noncomputable def mz_s_mmin (F : Nat → Nat × Nat) (nL mo : Nat) (hs : List mz_Hr) (call : mz_Ca) (go : mz_Go) (e pc L : Nat) (st : List Nat) (M K n top nc ns : Nat) : Option mz_Rt :=
  mz_p1 st fun y l => mz_p1 l fun x l => bif mz_l4 l then mz_lt F y x fun b => mz_f (bif b then y else x) fun w => go (Nat.add pc 3) L (w :: l) M K n top nc ns else none
def mz_k_mmin (own mn : String) (cc : ByteArray) (mo : Nat) (ret : Option FieldType) (e pc : Nat) : Bool := decide (decode cc pc = .ok (.invokestatic (mz_ex e), 3) ∧ mz_wi (mz_ez e) (.methodLink own (mz_ex e) Lib.Math.min.name) ∧ Jvm.Cond.static Lib.Math.min.name ∈ mz_gG ∧ Jvm.Cond.initialized "java/lang/Math" ∈ mz_gG ∧ Jvm.Cond.code Lib.Math.min.name Lib.Math.min.code 2 (some .int) ∈ mz_gG)
theorem mz_t_mmin (mk : mz_Mk) : mz_Lk mk mz_s_mmin mz_k_mmin := by
  intro X own cc F nL mo d hs ret r call go e pc L st M K n top nc ns ⟨C, O, hnL, hR, hD, hE, hC, hG⟩ hk h
  obtain ⟨hd, hw, hw2, hw3, hw4⟩ := of_decide_eq_true hk
  have hF : mz_F F (mz_rho X) := mz_CF C
  unfold mz_s_mmin at h
  obtain ⟨y, l, rfl, hp⟩ := mz_p1_ok h
  obtain ⟨x, l, rfl, hq⟩ := mz_p1_ok hp
  have h := hq
  obtain ⟨a0, h⟩ := mz_ift h
  obtain ⟨a1, a2, b, h, a3⟩ := mz_lt_ok hF h
  rw [mz_f_eq] at h
  obtain ⟨g1, g2, g3⟩ := hG _ _ _ _ _ _ _ _ _ h
  exact ⟨g1, g2, mz_mminG C hd (mz_wi_ok hw) hw2 hw3 hw4 a2 a1 (mz_pickI a2 a1) (mz_pick a3) (mz_l4_ok a0) ⟨by omega, by omega, Nat.le_trans g1 hR.1, Nat.le_trans g2 hR.2⟩ g3⟩
noncomputable def mz_s_mabs (F : Nat → Nat × Nat) (nL mo : Nat) (hs : List mz_Hr) (call : mz_Ca) (go : mz_Go) (e pc L : Nat) (st : List Nat) (M K n top nc ns : Nat) : Option mz_Rt :=
  mz_p1 st fun x l => bif mz_l4 l then mz_lt F x 1 fun b => bif b then mz_oneg x fun w => go (Nat.add pc 3) L (w :: l) M K n top nc ns else go (Nat.add pc 3) L (x :: l) M K n top nc ns else none
def mz_k_mabs (own mn : String) (cc : ByteArray) (mo : Nat) (ret : Option FieldType) (e pc : Nat) : Bool := decide (decode cc pc = .ok (.invokestatic (mz_ex e), 3) ∧ mz_wi (mz_ez e) (.methodLink own (mz_ex e) Lib.Math.abs.name) ∧ Jvm.Cond.static Lib.Math.abs.name ∈ mz_gG ∧ Jvm.Cond.initialized "java/lang/Math" ∈ mz_gG ∧ Jvm.Cond.code Lib.Math.abs.name Lib.Math.abs.code 1 (some .int) ∈ mz_gG)
theorem mz_t_mabs (mk : mz_Mk) : mz_Lk mk mz_s_mabs mz_k_mabs := by
  intro X own cc F nL mo d hs ret r call go e pc L st M K n top nc ns ⟨C, O, hnL, hR, hD, hE, hC, hG⟩ hk h
  obtain ⟨hd, hw, hw2, hw3, hw4⟩ := of_decide_eq_true hk
  have hF : mz_F F (mz_rho X) := mz_CF C
  unfold mz_s_mabs at h
  obtain ⟨x, l, rfl, hp⟩ := mz_p1_ok h
  have h := hp
  obtain ⟨a0, h⟩ := mz_ift h
  obtain ⟨a1, a2, b, h, a3⟩ := mz_lt_ok hF h
  have e1 : mz_i (mz_rho X) 1 = nI 0 := (mz_nw (ρ := mz_rho X) 0).2
  rw [e1] at a3
  rcases mz_if h with ⟨hb, h⟩ | ⟨hb, h⟩
  · obtain ⟨b1, w, h, b3, b4⟩ := mz_oneg_ok (ρ := mz_rho X) h
    obtain ⟨g1, g2, g3⟩ := hG _ _ _ _ _ _ _ _ _ h
    exact ⟨g1, g2, mz_mabsG C hd (mz_wi_ok hw) hw2 hw3 hw4 a1 b3 (by rw [mz_absI a3, if_pos hb, b4]) (mz_l4_ok a0) ⟨by omega, by omega, Nat.le_trans g1 hR.1, Nat.le_trans g2 hR.2⟩ g3⟩
  · obtain ⟨g1, g2, g3⟩ := hG _ _ _ _ _ _ _ _ _ h
    exact ⟨g1, g2, mz_mabsG C hd (mz_wi_ok hw) hw2 hw3 hw4 a1 a1 (by rw [mz_absI a3, if_neg (by rw [hb]; decide)]) (mz_l4_ok a0) ⟨by omega, by omega, Nat.le_trans g1 hR.1, Nat.le_trans g2 hR.2⟩ g3⟩
noncomputable def mz_s_ret (F : Nat → Nat × Nat) (nL mo : Nat) (hs : List mz_Hr) (call : mz_Ca) (go : mz_Go) (e pc L : Nat) (st : List Nat) (M K n top nc ns : Nat) : Option mz_Rt :=
  List.rec (motive := fun _ => Option mz_Rt) (some (0, none, M, K, n, top, nc, ns)) (fun _ _ _ => none) st
def mz_k_ret (own mn : String) (cc : ByteArray) (mo : Nat) (ret : Option FieldType) (e pc : Nat) : Bool := decide (decode cc pc = .ok (.return_, 1) ∧ mo ≤ 1 ∧ ret = none)
theorem mz_t_ret (mk : mz_Mk) : mz_Lk mk mz_s_ret mz_k_ret := by
  intro X own cc F nL mo d hs ret r call go e pc L st M K n top nc ns ⟨C, O, hnL, hR, hD, hE, hC, hG⟩ hk h
  obtain ⟨hd, hm, hr⟩ := of_decide_eq_true hk
  have hmx : ∃ tb M0 K0 top0, mz_MX X ret tb (mz_hh hs) M0 K0 top0 r := by
    obtain h0 | h0 : mo = 0 ∨ mo = 1 := by omega
    · exact ⟨false, hE.1 h0⟩
    · exact ⟨true, (hE.2.1 h0).1⟩
  obtain ⟨tb, M0, K0, top0, E⟩ := hmx
  unfold mz_s_ret at h
  cases st with
  | cons w l => cases h
  | nil =>
    cases h
    exact ⟨Nat.le_refl _, Nat.le_refl _, mz_vret C E hd hr⟩
noncomputable def mz_s_iret_int (F : Nat → Nat × Nat) (nL mo : Nat) (hs : List mz_Hr) (call : mz_Ca) (go : mz_Go) (e pc L : Nat) (st : List Nat) (M K n top nc ns : Nat) : Option mz_Rt :=
  mz_p1 st fun w l => bif mz_I w then bif mz_rfit .int w then List.rec (motive := fun _ => Option mz_Rt) (some (0, some w, M, K, n, top, nc, ns)) (fun _ _ _ => none) l else none else none
def mz_k_iret_int (own mn : String) (cc : ByteArray) (mo : Nat) (ret : Option FieldType) (e pc : Nat) : Bool := decide (decode cc pc = .ok (.ireturn, 1) ∧ mo ≤ 1 ∧ ret = some .int)
theorem mz_t_iret_int (mk : mz_Mk) : mz_Lk mk mz_s_iret_int mz_k_iret_int := by
  intro X own cc F nL mo d hs ret r call go e pc L st M K n top nc ns ⟨C, O, hnL, hR, hD, hE, hC, hG⟩ hk h
  obtain ⟨hd, hm, hr⟩ := of_decide_eq_true hk
  have hmx : ∃ tb M0 K0 top0, mz_MX X ret tb (mz_hh hs) M0 K0 top0 r := by
    obtain h0 | h0 : mo = 0 ∨ mo = 1 := by omega
    · exact ⟨false, hE.1 h0⟩
    · exact ⟨true, (hE.2.1 h0).1⟩
  obtain ⟨tb, M0, K0, top0, E⟩ := hmx
  unfold mz_s_iret_int at h
  obtain ⟨w, l, rfl, hp⟩ := mz_p1_ok h
  have h := hp
  obtain ⟨a1, h⟩ := mz_ift h
  obtain ⟨a2, h⟩ := mz_ift h
  cases l with
  | cons v l => cases h
  | nil =>
    cases h
    exact ⟨Nat.le_refl _, Nat.le_refl _, mz_iret C E hd hr a1 a2⟩
noncomputable def mz_s_iret_bool (F : Nat → Nat × Nat) (nL mo : Nat) (hs : List mz_Hr) (call : mz_Ca) (go : mz_Go) (e pc L : Nat) (st : List Nat) (M K n top nc ns : Nat) : Option mz_Rt :=
  mz_p1 st fun w l => bif mz_I w then bif mz_rfit .boolean w then List.rec (motive := fun _ => Option mz_Rt) (some (0, some w, M, K, n, top, nc, ns)) (fun _ _ _ => none) l else none else none
def mz_k_iret_bool (own mn : String) (cc : ByteArray) (mo : Nat) (ret : Option FieldType) (e pc : Nat) : Bool := decide (decode cc pc = .ok (.ireturn, 1) ∧ mo ≤ 1 ∧ ret = some .boolean)
theorem mz_t_iret_bool (mk : mz_Mk) : mz_Lk mk mz_s_iret_bool mz_k_iret_bool := by
  intro X own cc F nL mo d hs ret r call go e pc L st M K n top nc ns ⟨C, O, hnL, hR, hD, hE, hC, hG⟩ hk h
  obtain ⟨hd, hm, hr⟩ := of_decide_eq_true hk
  have hmx : ∃ tb M0 K0 top0, mz_MX X ret tb (mz_hh hs) M0 K0 top0 r := by
    obtain h0 | h0 : mo = 0 ∨ mo = 1 := by omega
    · exact ⟨false, hE.1 h0⟩
    · exact ⟨true, (hE.2.1 h0).1⟩
  obtain ⟨tb, M0, K0, top0, E⟩ := hmx
  unfold mz_s_iret_bool at h
  obtain ⟨w, l, rfl, hp⟩ := mz_p1_ok h
  have h := hp
  obtain ⟨a1, h⟩ := mz_ift h
  obtain ⟨a2, h⟩ := mz_ift h
  cases l with
  | cons v l => cases h
  | nil =>
    cases h
    exact ⟨Nat.le_refl _, Nat.le_refl _, mz_iret C E hd hr a1 a2⟩
noncomputable def mz_s_iret_char (F : Nat → Nat × Nat) (nL mo : Nat) (hs : List mz_Hr) (call : mz_Ca) (go : mz_Go) (e pc L : Nat) (st : List Nat) (M K n top nc ns : Nat) : Option mz_Rt :=
  mz_p1 st fun w l => bif mz_I w then bif mz_rfit .char w then List.rec (motive := fun _ => Option mz_Rt) (some (0, some w, M, K, n, top, nc, ns)) (fun _ _ _ => none) l else none else none
def mz_k_iret_char (own mn : String) (cc : ByteArray) (mo : Nat) (ret : Option FieldType) (e pc : Nat) : Bool := decide (decode cc pc = .ok (.ireturn, 1) ∧ mo ≤ 1 ∧ ret = some .char)
theorem mz_t_iret_char (mk : mz_Mk) : mz_Lk mk mz_s_iret_char mz_k_iret_char := by
  intro X own cc F nL mo d hs ret r call go e pc L st M K n top nc ns ⟨C, O, hnL, hR, hD, hE, hC, hG⟩ hk h
  obtain ⟨hd, hm, hr⟩ := of_decide_eq_true hk
  have hmx : ∃ tb M0 K0 top0, mz_MX X ret tb (mz_hh hs) M0 K0 top0 r := by
    obtain h0 | h0 : mo = 0 ∨ mo = 1 := by omega
    · exact ⟨false, hE.1 h0⟩
    · exact ⟨true, (hE.2.1 h0).1⟩
  obtain ⟨tb, M0, K0, top0, E⟩ := hmx
  unfold mz_s_iret_char at h
  obtain ⟨w, l, rfl, hp⟩ := mz_p1_ok h
  have h := hp
  obtain ⟨a1, h⟩ := mz_ift h
  obtain ⟨a2, h⟩ := mz_ift h
  cases l with
  | cons v l => cases h
  | nil =>
    cases h
    exact ⟨Nat.le_refl _, Nat.le_refl _, mz_iret C E hd hr a1 a2⟩
noncomputable def mz_s_iret_byte (F : Nat → Nat × Nat) (nL mo : Nat) (hs : List mz_Hr) (call : mz_Ca) (go : mz_Go) (e pc L : Nat) (st : List Nat) (M K n top nc ns : Nat) : Option mz_Rt :=
  mz_p1 st fun w l => bif mz_I w then bif mz_rfit .byte w then List.rec (motive := fun _ => Option mz_Rt) (some (0, some w, M, K, n, top, nc, ns)) (fun _ _ _ => none) l else none else none
def mz_k_iret_byte (own mn : String) (cc : ByteArray) (mo : Nat) (ret : Option FieldType) (e pc : Nat) : Bool := decide (decode cc pc = .ok (.ireturn, 1) ∧ mo ≤ 1 ∧ ret = some .byte)
theorem mz_t_iret_byte (mk : mz_Mk) : mz_Lk mk mz_s_iret_byte mz_k_iret_byte := by
  intro X own cc F nL mo d hs ret r call go e pc L st M K n top nc ns ⟨C, O, hnL, hR, hD, hE, hC, hG⟩ hk h
  obtain ⟨hd, hm, hr⟩ := of_decide_eq_true hk
  have hmx : ∃ tb M0 K0 top0, mz_MX X ret tb (mz_hh hs) M0 K0 top0 r := by
    obtain h0 | h0 : mo = 0 ∨ mo = 1 := by omega
    · exact ⟨false, hE.1 h0⟩
    · exact ⟨true, (hE.2.1 h0).1⟩
  obtain ⟨tb, M0, K0, top0, E⟩ := hmx
  unfold mz_s_iret_byte at h
  obtain ⟨w, l, rfl, hp⟩ := mz_p1_ok h
  have h := hp
  obtain ⟨a1, h⟩ := mz_ift h
  obtain ⟨a2, h⟩ := mz_ift h
  cases l with
  | cons v l => cases h
  | nil =>
    cases h
    exact ⟨Nat.le_refl _, Nat.le_refl _, mz_iret C E hd hr a1 a2⟩
noncomputable def mz_s_iret_law (F : Nat → Nat × Nat) (nL mo : Nat) (hs : List mz_Hr) (call : mz_Ca) (go : mz_Go) (e pc L : Nat) (st : List Nat) (M K n top nc ns : Nat) : Option mz_Rt :=
  mz_p1 st fun w l => bif mz_I w then List.rec (motive := fun _ => Option mz_Rt) (some (0, some w, M, K, n, top, nc, ns)) (fun _ _ _ => none) l else none
def mz_k_iret_law (own mn : String) (cc : ByteArray) (mo : Nat) (ret : Option FieldType) (e pc : Nat) : Bool := decide (decode cc pc = .ok (.ireturn, 1) ∧ 2 ≤ mo)
theorem mz_t_iret_law (mk : mz_Mk) : mz_Lk mk mz_s_iret_law mz_k_iret_law := by
  intro X own cc F nL mo d hs ret r call go e pc L st M K n top nc ns ⟨C, O, hnL, hR, hD, hE, hC, hG⟩ hk h
  obtain ⟨hd, hm⟩ := of_decide_eq_true hk
  have E := hE.2.2 (mo - 2) (by omega)
  unfold mz_s_iret_law at h
  obtain ⟨w, l, rfl, hp⟩ := mz_p1_ok h
  have h := hp
  obtain ⟨a1, h⟩ := mz_ift h
  cases l with
  | cons v l => cases h
  | nil =>
    cases h
    exact ⟨Nat.le_refl _, Nat.le_refl _, (mz_LXr E hd rfl a1)⟩
noncomputable def mz_s_lret (F : Nat → Nat × Nat) (nL mo : Nat) (hs : List mz_Hr) (call : mz_Ca) (go : mz_Go) (e pc L : Nat) (st : List Nat) (M K n top nc ns : Nat) : Option mz_Rt :=
  mz_p1 st fun w l => bif mz_L w then List.rec (motive := fun _ => Option mz_Rt) (some (0, some w, M, K, n, top, nc, ns)) (fun _ _ _ => none) l else none
def mz_k_lret (own mn : String) (cc : ByteArray) (mo : Nat) (ret : Option FieldType) (e pc : Nat) : Bool := decide (decode cc pc = .ok (.lreturn, 1) ∧ mo ≤ 1 ∧ ret = some .long)
theorem mz_t_lret (mk : mz_Mk) : mz_Lk mk mz_s_lret mz_k_lret := by
  intro X own cc F nL mo d hs ret r call go e pc L st M K n top nc ns ⟨C, O, hnL, hR, hD, hE, hC, hG⟩ hk h
  obtain ⟨hd, hm, hr⟩ := of_decide_eq_true hk
  have hmx : ∃ tb M0 K0 top0, mz_MX X ret tb (mz_hh hs) M0 K0 top0 r := by
    obtain h0 | h0 : mo = 0 ∨ mo = 1 := by omega
    · exact ⟨false, hE.1 h0⟩
    · exact ⟨true, (hE.2.1 h0).1⟩
  obtain ⟨tb, M0, K0, top0, E⟩ := hmx
  unfold mz_s_lret at h
  obtain ⟨w, l, rfl, hp⟩ := mz_p1_ok h
  have h := hp
  obtain ⟨a1, h⟩ := mz_ift h
  cases l with
  | cons v l => cases h
  | nil =>
    cases h
    exact ⟨Nat.le_refl _, Nat.le_refl _, mz_lret C E hd hr a1⟩
end
section
/-! THE STEPS, 5 -/
noncomputable def mz_s_fret (F : Nat → Nat × Nat) (nL mo : Nat) (hs : List mz_Hr) (call : mz_Ca) (go : mz_Go) (e pc L : Nat) (st : List Nat) (M K n top nc ns : Nat) : Option mz_Rt :=
  mz_p1 st fun w l => bif Nat.beq w 7 then List.rec (motive := fun _ => Option mz_Rt) (some (0, some 7, M, K, n, top, nc, ns)) (fun _ _ _ => none) l else none
def mz_k_fret (own mn : String) (cc : ByteArray) (mo : Nat) (ret : Option FieldType) (e pc : Nat) : Bool := decide (decode cc pc = .ok (.freturn, 1) ∧ mo ≤ 1 ∧ ret = some .float)
theorem mz_t_fret (mk : mz_Mk) : mz_Lk mk mz_s_fret mz_k_fret := by
  intro X own cc F nL mo d hs ret r call go e pc L st M K n top nc ns ⟨C, O, hnL, hR, hD, hE, hC, hG⟩ hk h
  obtain ⟨hd, hm, hr⟩ := of_decide_eq_true hk
  have hmx : ∃ tb M0 K0 top0, mz_MX X ret tb (mz_hh hs) M0 K0 top0 r := by
    obtain h0 | h0 : mo = 0 ∨ mo = 1 := by omega
    · exact ⟨false, hE.1 h0⟩
    · exact ⟨true, (hE.2.1 h0).1⟩
  obtain ⟨tb, M0, K0, top0, E⟩ := hmx
  unfold mz_s_fret at h
  obtain ⟨w, l, rfl, hp⟩ := mz_p1_ok h
  have h := hp
  obtain ⟨a1, h⟩ := mz_ift h
  have a1 := mz_bq a1
  cases l with
  | cons v l => cases h
  | nil =>
    cases h
    exact ⟨Nat.le_refl _, Nat.le_refl _, (by subst a1; exact mz_fret C E hd hr)⟩
noncomputable def mz_s_dret (F : Nat → Nat × Nat) (nL mo : Nat) (hs : List mz_Hr) (call : mz_Ca) (go : mz_Go) (e pc L : Nat) (st : List Nat) (M K n top nc ns : Nat) : Option mz_Rt :=
  mz_p1 st fun w l => bif Nat.beq w 8 then List.rec (motive := fun _ => Option mz_Rt) (some (0, some 8, M, K, n, top, nc, ns)) (fun _ _ _ => none) l else none
def mz_k_dret (own mn : String) (cc : ByteArray) (mo : Nat) (ret : Option FieldType) (e pc : Nat) : Bool := decide (decode cc pc = .ok (.dreturn, 1) ∧ mo ≤ 1 ∧ ret = some .double)
theorem mz_t_dret (mk : mz_Mk) : mz_Lk mk mz_s_dret mz_k_dret := by
  intro X own cc F nL mo d hs ret r call go e pc L st M K n top nc ns ⟨C, O, hnL, hR, hD, hE, hC, hG⟩ hk h
  obtain ⟨hd, hm, hr⟩ := of_decide_eq_true hk
  have hmx : ∃ tb M0 K0 top0, mz_MX X ret tb (mz_hh hs) M0 K0 top0 r := by
    obtain h0 | h0 : mo = 0 ∨ mo = 1 := by omega
    · exact ⟨false, hE.1 h0⟩
    · exact ⟨true, (hE.2.1 h0).1⟩
  obtain ⟨tb, M0, K0, top0, E⟩ := hmx
  unfold mz_s_dret at h
  obtain ⟨w, l, rfl, hp⟩ := mz_p1_ok h
  have h := hp
  obtain ⟨a1, h⟩ := mz_ift h
  have a1 := mz_bq a1
  cases l with
  | cons v l => cases h
  | nil =>
    cases h
    exact ⟨Nat.le_refl _, Nat.le_refl _, (by subst a1; exact mz_dret C E hd hr)⟩
noncomputable def mz_s_aret (F : Nat → Nat × Nat) (nL mo : Nat) (hs : List mz_Hr) (call : mz_Ca) (go : mz_Go) (e pc L : Nat) (st : List Nat) (M K n top nc ns : Nat) : Option mz_Rt :=
  mz_p1 st fun w l => bif mz_R w then List.rec (motive := fun _ => Option mz_Rt) (some (0, some w, M, K, n, top, nc, ns)) (fun _ _ _ => none) l else none
def mz_k_aret (own mn : String) (cc : ByteArray) (mo : Nat) (ret : Option FieldType) (e pc : Nat) : Bool := ret.elim false fun ty => decide (decode cc pc = .ok (.areturn, 1) ∧ mo ≤ 1 ∧ mz_oty ty = true)
theorem mz_t_aret (mk : mz_Mk) : mz_Lk mk mz_s_aret mz_k_aret := by
  intro X own cc F nL mo d hs ret r call go e pc L st M K n top nc ns ⟨C, O, hnL, hR, hD, hE, hC, hG⟩ hk h
  obtain ⟨ty, hr, hk⟩ := mz_elim hk
  obtain ⟨hd, hm, ho⟩ := of_decide_eq_true hk
  have hmx : ∃ tb M0 K0 top0, mz_MX X ret tb (mz_hh hs) M0 K0 top0 r := by
    obtain h0 | h0 : mo = 0 ∨ mo = 1 := by omega
    · exact ⟨false, hE.1 h0⟩
    · exact ⟨true, (hE.2.1 h0).1⟩
  obtain ⟨tb, M0, K0, top0, E⟩ := hmx
  unfold mz_s_aret at h
  obtain ⟨w, l, rfl, hp⟩ := mz_p1_ok h
  have h := hp
  obtain ⟨a1, h⟩ := mz_ift h
  cases l with
  | cons v l => cases h
  | nil =>
    cases h
    exact ⟨Nat.le_refl _, Nat.le_refl _, mz_aret C E hd hr a1 ho⟩
noncomputable def mz_s_tsw (F : Nat → Nat × Nat) (nL mo : Nat) (hs : List mz_Hr) (call : mz_Ca) (go : mz_Go) (e pc L : Nat) (st : List Nat) (M K n top nc ns : Nat) : Option mz_Rt :=
  mz_p1 st fun x l => bif mz_sm x then go (mz_pk mz_sw.2 mz_sw.1 (mz_q x)) L l M K n top nc ns else none
def mz_k_tsw (own mn : String) (cc : ByteArray) (mo : Nat) (ret : Option FieldType) (e pc : Nat) : Bool := decide (decode cc pc = .ok (.tableswitch ((mz_sw.1 : Int) - (pc : Int)) 0 ((mz_sw.2.length : Int) - 1) (mz_sw.2.map fun t => Int.ofNat t - (pc : Int)).toArray, mz_ex e))
theorem mz_t_tsw (mk : mz_Mk) : mz_Lk mk mz_s_tsw mz_k_tsw := by
  intro X own cc F nL mo d hs ret r call go e pc L st M K n top nc ns ⟨C, O, hnL, hR, hD, hE, hC, hG⟩ hk h
  have hd := of_decide_eq_true hk
  unfold mz_s_tsw at h
  obtain ⟨x, l, rfl, hp⟩ := mz_p1_ok h
  have h := hp
  obtain ⟨a1, h⟩ := mz_ift h
  obtain ⟨g1, g2, g3⟩ := hG _ _ _ _ _ _ _ _ _ h
  refine ⟨g1, g2, ?_⟩
  obtain ⟨b1, b2, b3⟩ := mz_sm_n (ρ := mz_rho X) a1
  have b4 : (mz_i (mz_rho X) x).toInt = (mz_q x : Int) := mz_toInt b2 b3
  by_cases hq : mz_q x < mz_sw.2.length
  · have g := mz_pk_in mz_sw.2 mz_sw.1 (mz_q x) hq
    exact mz_switchIn (off := ((mz_pk mz_sw.2 mz_sw.1 (mz_q x) : Nat) : Int) - (pc : Int)) C hd b1 (by rw [b4]; omega) (by rw [b4]; omega) (by
      rw [b4, show ((mz_q x : Int) - 0).toNat = mz_q x by omega, List.getElem?_toArray, List.getElem?_map, g]; rfl) (by omega) g3
  · rw [mz_pk_out _ _ _ (Nat.le_of_not_lt hq)] at g3
    exact mz_switchOut C hd b1 (Or.inr (by rw [b4]; omega)) (by omega) g3
end
section
theorem zz_t {ρ : Nat → Int32} {x y : Nat} {r : Nat} (h : mz_oladd x y (fun w => some w) = some r) : mz_l ρ r = mz_l ρ x + mz_l ρ y := by
  obtain ⟨-, -, w, h1, -, h2⟩ := mz_oladd_ok (ρ := ρ) h
  cases h1
  exact h2
end
