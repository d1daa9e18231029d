section
-- ===== PART A: goes FIRST, ahead of the names: the tables' words, and 'selects' of the private methods out of them =====
/-- a private method of a class that the tables say can be made, by its rows of tables_1 -/
def lw_okq (q : MethodName × Nat) : Prop := (q.1.cls ≠ "java/lang/invoke/MethodHandle" ∧ q.1.cls ≠ "java/lang/invoke/VarHandle") ∧ Cond.instantiable q.1.cls q.2 ∈ tables_1 ∧ Cond.privateMethod q.1 ∈ tables_1 ∧ Cond.instanceMethod q.1 ∈ tables_1
theorem lw_p0 : lw_okq (⟨"StarCrew", "finding", "(I)I"⟩, 10) := ⟨⟨by decide +kernel, by decide +kernel⟩, List.mem_of_getElem? (i := 17) (by decide +kernel), List.mem_of_getElem? (i := 213) (by decide +kernel), List.mem_of_getElem? (i := 214) (by decide +kernel)⟩
theorem lw_p1 : lw_okq (⟨"StarCrew", "copyLives", "()V"⟩, 10) := ⟨⟨by decide +kernel, by decide +kernel⟩, List.mem_of_getElem? (i := 17) (by decide +kernel), List.mem_of_getElem? (i := 358) (by decide +kernel), List.mem_of_getElem? (i := 359) (by decide +kernel)⟩
theorem lw_p2 : lw_okq (⟨"StarCrew", "isSetOfStars", "(I)Z"⟩, 10) := ⟨⟨by decide +kernel, by decide +kernel⟩, List.mem_of_getElem? (i := 17) (by decide +kernel), List.mem_of_getElem? (i := 390) (by decide +kernel), List.mem_of_getElem? (i := 391) (by decide +kernel)⟩
theorem lw_p3 : lw_okq (⟨"StarCrew$Walker", "insert", "(III)V"⟩, 4) := ⟨⟨by decide +kernel, by decide +kernel⟩, List.mem_of_getElem? (i := 138) (by decide +kernel), List.mem_of_getElem? (i := 398) (by decide +kernel), List.mem_of_getElem? (i := 399) (by decide +kernel)⟩
theorem lw_p4 : lw_okq (⟨"StarCrew", "bestSet", "(I)I"⟩, 10) := ⟨⟨by decide +kernel, by decide +kernel⟩, List.mem_of_getElem? (i := 17) (by decide +kernel), List.mem_of_getElem? (i := 413) (by decide +kernel), List.mem_of_getElem? (i := 414) (by decide +kernel)⟩
theorem lw_p5 : lw_okq (⟨"StarCrew", "canShare", "(III)Z"⟩, 10) := ⟨⟨by decide +kernel, by decide +kernel⟩, List.mem_of_getElem? (i := 17) (by decide +kernel), List.mem_of_getElem? (i := 430) (by decide +kernel), List.mem_of_getElem? (i := 431) (by decide +kernel)⟩
theorem lw_p6 : lw_okq (⟨"StarCrew", "firstShare", "(III)I"⟩, 10) := ⟨⟨by decide +kernel, by decide +kernel⟩, List.mem_of_getElem? (i := 17) (by decide +kernel), List.mem_of_getElem? (i := 434) (by decide +kernel), List.mem_of_getElem? (i := 435) (by decide +kernel)⟩
theorem lw_p7 : lw_okq (⟨"StarCrew", "longerWay", "(II)I"⟩, 10) := ⟨⟨by decide +kernel, by decide +kernel⟩, List.mem_of_getElem? (i := 17) (by decide +kernel), List.mem_of_getElem? (i := 438) (by decide +kernel), List.mem_of_getElem? (i := 439) (by decide +kernel)⟩
theorem lw_p8 : lw_okq (⟨"StarCrew", "lackOfSheet", "(I)I"⟩, 10) := ⟨⟨by decide +kernel, by decide +kernel⟩, List.mem_of_getElem? (i := 17) (by decide +kernel), List.mem_of_getElem? (i := 493) (by decide +kernel), List.mem_of_getElem? (i := 494) (by decide +kernel)⟩
theorem lw_p9 : lw_okq (⟨"StarCrew", "isAsSheet", "(LStarCrew$Sheet;II)Z"⟩, 10) := ⟨⟨by decide +kernel, by decide +kernel⟩, List.mem_of_getElem? (i := 17) (by decide +kernel), List.mem_of_getElem? (i := 497) (by decide +kernel), List.mem_of_getElem? (i := 498) (by decide +kernel)⟩
theorem lw_p10 : lw_okq (⟨"StarCrew$TextReader", "readItem", "(LStarCrew$Sky;)Z"⟩, 1) := ⟨⟨by decide +kernel, by decide +kernel⟩, List.mem_of_getElem? (i := 95) (by decide +kernel), List.mem_of_getElem? (i := 560) (by decide +kernel), List.mem_of_getElem? (i := 561) (by decide +kernel)⟩
theorem lw_p11 : lw_okq (⟨"StarCrew$TextReader", "readCrew", "(LStarCrew$Sky;)Z"⟩, 1) := ⟨⟨by decide +kernel, by decide +kernel⟩, List.mem_of_getElem? (i := 95) (by decide +kernel), List.mem_of_getElem? (i := 617) (by decide +kernel), List.mem_of_getElem? (i := 618) (by decide +kernel)⟩
theorem lw_p12 : lw_okq (⟨"StarCrew$TextReader", "number", "(II)I"⟩, 1) := ⟨⟨by decide +kernel, by decide +kernel⟩, List.mem_of_getElem? (i := 95) (by decide +kernel), List.mem_of_getElem? (i := 622) (by decide +kernel), List.mem_of_getElem? (i := 623) (by decide +kernel)⟩
theorem lw_p13 : lw_okq (⟨"StarCrew$TextReader", "numberBehind", "(Ljava/lang/String;II)I"⟩, 1) := ⟨⟨by decide +kernel, by decide +kernel⟩, List.mem_of_getElem? (i := 95) (by decide +kernel), List.mem_of_getElem? (i := 627) (by decide +kernel), List.mem_of_getElem? (i := 628) (by decide +kernel)⟩
theorem lw_p14 : lw_okq (⟨"StarCrew$TextReader", "readSign", "(LStarCrew$Sky;)Z"⟩, 1) := ⟨⟨by decide +kernel, by decide +kernel⟩, List.mem_of_getElem? (i := 95) (by decide +kernel), List.mem_of_getElem? (i := 633) (by decide +kernel), List.mem_of_getElem? (i := 634) (by decide +kernel)⟩
theorem lw_p15 : lw_okq (⟨"StarCrew$TextReader", "kindNamed", "()I"⟩, 1) := ⟨⟨by decide +kernel, by decide +kernel⟩, List.mem_of_getElem? (i := 95) (by decide +kernel), List.mem_of_getElem? (i := 638) (by decide +kernel), List.mem_of_getElem? (i := 639) (by decide +kernel)⟩
def lw_privs_1 : List (MethodName × Nat) := [(⟨"StarCrew", "finding", "(I)I"⟩, 10), (⟨"StarCrew", "copyLives", "()V"⟩, 10), (⟨"StarCrew", "isSetOfStars", "(I)Z"⟩, 10), (⟨"StarCrew$Walker", "insert", "(III)V"⟩, 4), (⟨"StarCrew", "bestSet", "(I)I"⟩, 10), (⟨"StarCrew", "canShare", "(III)Z"⟩, 10), (⟨"StarCrew", "firstShare", "(III)I"⟩, 10), (⟨"StarCrew", "longerWay", "(II)I"⟩, 10), (⟨"StarCrew", "lackOfSheet", "(I)I"⟩, 10), (⟨"StarCrew", "isAsSheet", "(LStarCrew$Sheet;II)Z"⟩, 10), (⟨"StarCrew$TextReader", "readItem", "(LStarCrew$Sky;)Z"⟩, 1), (⟨"StarCrew$TextReader", "readCrew", "(LStarCrew$Sky;)Z"⟩, 1), (⟨"StarCrew$TextReader", "number", "(II)I"⟩, 1), (⟨"StarCrew$TextReader", "numberBehind", "(Ljava/lang/String;II)I"⟩, 1), (⟨"StarCrew$TextReader", "readSign", "(LStarCrew$Sky;)Z"⟩, 1), (⟨"StarCrew$TextReader", "kindNamed", "()I"⟩, 1)]
theorem lw_r1 : ∀ q ∈ lw_privs_1, lw_okq q := List.forall_mem_cons.mpr ⟨lw_p0, List.forall_mem_cons.mpr ⟨lw_p1, List.forall_mem_cons.mpr ⟨lw_p2, List.forall_mem_cons.mpr ⟨lw_p3, List.forall_mem_cons.mpr ⟨lw_p4, List.forall_mem_cons.mpr ⟨lw_p5, List.forall_mem_cons.mpr ⟨lw_p6, List.forall_mem_cons.mpr ⟨lw_p7, List.forall_mem_cons.mpr ⟨lw_p8, List.forall_mem_cons.mpr ⟨lw_p9, List.forall_mem_cons.mpr ⟨lw_p10, List.forall_mem_cons.mpr ⟨lw_p11, List.forall_mem_cons.mpr ⟨lw_p12, List.forall_mem_cons.mpr ⟨lw_p13, List.forall_mem_cons.mpr ⟨lw_p14, List.forall_mem_cons.mpr ⟨lw_p15, fun _ h => absurd h List.not_mem_nil⟩⟩⟩⟩⟩⟩⟩⟩⟩⟩⟩⟩⟩⟩⟩⟩
theorem lw_p16 : lw_okq (⟨"StarCrew$TextReader", "readStar", "(LStarCrew$Sky;I)Z"⟩, 1) := ⟨⟨by decide +kernel, by decide +kernel⟩, List.mem_of_getElem? (i := 95) (by decide +kernel), List.mem_of_getElem? (i := 649) (by decide +kernel), List.mem_of_getElem? (i := 650) (by decide +kernel)⟩
theorem lw_p17 : lw_okq (⟨"StarCrew$TextReader", "settingNamed", "()I"⟩, 1) := ⟨⟨by decide +kernel, by decide +kernel⟩, List.mem_of_getElem? (i := 95) (by decide +kernel), List.mem_of_getElem? (i := 656) (by decide +kernel), List.mem_of_getElem? (i := 657) (by decide +kernel)⟩
theorem lw_p18 : lw_okq (⟨"StarCrew$TextReader", "readSetting", "(LStarCrew$Sky;I)Z"⟩, 1) := ⟨⟨by decide +kernel, by decide +kernel⟩, List.mem_of_getElem? (i := 95) (by decide +kernel), List.mem_of_getElem? (i := 664) (by decide +kernel), List.mem_of_getElem? (i := 665) (by decide +kernel)⟩
theorem lw_p19 : lw_okq (⟨"StarCrewModel", "no", "(I)I"⟩, 20) := ⟨⟨by decide +kernel, by decide +kernel⟩, List.mem_of_getElem? (i := 740) (by decide +kernel), List.mem_of_getElem? (i := 818) (by decide +kernel), List.mem_of_getElem? (i := 819) (by decide +kernel)⟩
theorem lw_p20 : lw_okq (⟨"StarCrewModel", "addsStar", "(II)V"⟩, 20) := ⟨⟨by decide +kernel, by decide +kernel⟩, List.mem_of_getElem? (i := 740) (by decide +kernel), List.mem_of_getElem? (i := 823) (by decide +kernel), List.mem_of_getElem? (i := 824) (by decide +kernel)⟩
theorem lw_p21 : lw_okq (⟨"StarCrewModel", "puts", "(III)V"⟩, 20) := ⟨⟨by decide +kernel, by decide +kernel⟩, List.mem_of_getElem? (i := 740) (by decide +kernel), List.mem_of_getElem? (i := 827) (by decide +kernel), List.mem_of_getElem? (i := 828) (by decide +kernel)⟩
theorem lw_p22 : lw_okq (⟨"StarCrewModel", "isStar", "(I)Z"⟩, 20) := ⟨⟨by decide +kernel, by decide +kernel⟩, List.mem_of_getElem? (i := 740) (by decide +kernel), List.mem_of_getElem? (i := 835) (by decide +kernel), List.mem_of_getElem? (i := 836) (by decide +kernel)⟩
theorem lw_p23 : lw_okq (⟨"StarCrewModel", "get", "(II)I"⟩, 20) := ⟨⟨by decide +kernel, by decide +kernel⟩, List.mem_of_getElem? (i := 740) (by decide +kernel), List.mem_of_getElem? (i := 839) (by decide +kernel), List.mem_of_getElem? (i := 840) (by decide +kernel)⟩
theorem lw_p24 : lw_okq (⟨"StarCrewModel", "wearOf", "(I)I"⟩, 20) := ⟨⟨by decide +kernel, by decide +kernel⟩, List.mem_of_getElem? (i := 740) (by decide +kernel), List.mem_of_getElem? (i := 843) (by decide +kernel), List.mem_of_getElem? (i := 844) (by decide +kernel)⟩
theorem lw_p25 : lw_okq (⟨"StarCrewModel", "dimOf", "(I)I"⟩, 20) := ⟨⟨by decide +kernel, by decide +kernel⟩, List.mem_of_getElem? (i := 740) (by decide +kernel), List.mem_of_getElem? (i := 847) (by decide +kernel), List.mem_of_getElem? (i := 848) (by decide +kernel)⟩
theorem lw_p26 : lw_okq (⟨"StarCrewModel", "shines", "(I)Z"⟩, 20) := ⟨⟨by decide +kernel, by decide +kernel⟩, List.mem_of_getElem? (i := 740) (by decide +kernel), List.mem_of_getElem? (i := 851) (by decide +kernel), List.mem_of_getElem? (i := 852) (by decide +kernel)⟩
theorem lw_p27 : lw_okq (⟨"StarCrewModel", "nights", "(I)V"⟩, 20) := ⟨⟨by decide +kernel, by decide +kernel⟩, List.mem_of_getElem? (i := 740) (by decide +kernel), List.mem_of_getElem? (i := 892) (by decide +kernel), List.mem_of_getElem? (i := 893) (by decide +kernel)⟩
theorem lw_p28 : lw_okq (⟨"StarCrewModel", "night", "()V"⟩, 20) := ⟨⟨by decide +kernel, by decide +kernel⟩, List.mem_of_getElem? (i := 740) (by decide +kernel), List.mem_of_getElem? (i := 896) (by decide +kernel), List.mem_of_getElem? (i := 897) (by decide +kernel)⟩
theorem lw_p29 : lw_okq (⟨"StarCrewModel", "shining", "()I"⟩, 20) := ⟨⟨by decide +kernel, by decide +kernel⟩, List.mem_of_getElem? (i := 740) (by decide +kernel), List.mem_of_getElem? (i := 903) (by decide +kernel), List.mem_of_getElem? (i := 904) (by decide +kernel)⟩
theorem lw_p30 : lw_okq (⟨"StarCrewModel", "lives", "()I"⟩, 20) := ⟨⟨by decide +kernel, by decide +kernel⟩, List.mem_of_getElem? (i := 740) (by decide +kernel), List.mem_of_getElem? (i := 914) (by decide +kernel), List.mem_of_getElem? (i := 915) (by decide +kernel)⟩
theorem lw_p31 : lw_okq (⟨"StarCrewModel", "worthOf", "(I)I"⟩, 20) := ⟨⟨by decide +kernel, by decide +kernel⟩, List.mem_of_getElem? (i := 740) (by decide +kernel), List.mem_of_getElem? (i := 918) (by decide +kernel), List.mem_of_getElem? (i := 919) (by decide +kernel)⟩
def lw_privs_2 : List (MethodName × Nat) := [(⟨"StarCrew$TextReader", "readStar", "(LStarCrew$Sky;I)Z"⟩, 1), (⟨"StarCrew$TextReader", "settingNamed", "()I"⟩, 1), (⟨"StarCrew$TextReader", "readSetting", "(LStarCrew$Sky;I)Z"⟩, 1), (⟨"StarCrewModel", "no", "(I)I"⟩, 20), (⟨"StarCrewModel", "addsStar", "(II)V"⟩, 20), (⟨"StarCrewModel", "puts", "(III)V"⟩, 20), (⟨"StarCrewModel", "isStar", "(I)Z"⟩, 20), (⟨"StarCrewModel", "get", "(II)I"⟩, 20), (⟨"StarCrewModel", "wearOf", "(I)I"⟩, 20), (⟨"StarCrewModel", "dimOf", "(I)I"⟩, 20), (⟨"StarCrewModel", "shines", "(I)Z"⟩, 20), (⟨"StarCrewModel", "nights", "(I)V"⟩, 20), (⟨"StarCrewModel", "night", "()V"⟩, 20), (⟨"StarCrewModel", "shining", "()I"⟩, 20), (⟨"StarCrewModel", "lives", "()I"⟩, 20), (⟨"StarCrewModel", "worthOf", "(I)I"⟩, 20)]
theorem lw_r2 : ∀ q ∈ lw_privs_2, lw_okq q := List.forall_mem_cons.mpr ⟨lw_p16, List.forall_mem_cons.mpr ⟨lw_p17, List.forall_mem_cons.mpr ⟨lw_p18, List.forall_mem_cons.mpr ⟨lw_p19, List.forall_mem_cons.mpr ⟨lw_p20, List.forall_mem_cons.mpr ⟨lw_p21, List.forall_mem_cons.mpr ⟨lw_p22, List.forall_mem_cons.mpr ⟨lw_p23, List.forall_mem_cons.mpr ⟨lw_p24, List.forall_mem_cons.mpr ⟨lw_p25, List.forall_mem_cons.mpr ⟨lw_p26, List.forall_mem_cons.mpr ⟨lw_p27, List.forall_mem_cons.mpr ⟨lw_p28, List.forall_mem_cons.mpr ⟨lw_p29, List.forall_mem_cons.mpr ⟨lw_p30, List.forall_mem_cons.mpr ⟨lw_p31, fun _ h => absurd h List.not_mem_nil⟩⟩⟩⟩⟩⟩⟩⟩⟩⟩⟩⟩⟩⟩⟩⟩
theorem lw_p32 : lw_okq (⟨"StarCrewModel", "at", "(I)I"⟩, 20) := ⟨⟨by decide +kernel, by decide +kernel⟩, List.mem_of_getElem? (i := 740) (by decide +kernel), List.mem_of_getElem? (i := 929) (by decide +kernel), List.mem_of_getElem? (i := 930) (by decide +kernel)⟩
theorem lw_p33 : lw_okq (⟨"StarCrewModel", "setsAside", "()V"⟩, 20) := ⟨⟨by decide +kernel, by decide +kernel⟩, List.mem_of_getElem? (i := 740) (by decide +kernel), List.mem_of_getElem? (i := 937) (by decide +kernel), List.mem_of_getElem? (i := 938) (by decide +kernel)⟩
theorem lw_p34 : lw_okq (⟨"StarCrewModel", "laysBack", "()V"⟩, 20) := ⟨⟨by decide +kernel, by decide +kernel⟩, List.mem_of_getElem? (i := 740) (by decide +kernel), List.mem_of_getElem? (i := 941) (by decide +kernel), List.mem_of_getElem? (i := 942) (by decide +kernel)⟩
theorem lw_p35 : lw_okq (⟨"StarCrewModel", "lastsNow", "(I)I"⟩, 20) := ⟨⟨by decide +kernel, by decide +kernel⟩, List.mem_of_getElem? (i := 740) (by decide +kernel), List.mem_of_getElem? (i := 949) (by decide +kernel), List.mem_of_getElem? (i := 950) (by decide +kernel)⟩
theorem lw_p36 : lw_okq (⟨"StarCrewModel", "isSet", "(I)Z"⟩, 20) := ⟨⟨by decide +kernel, by decide +kernel⟩, List.mem_of_getElem? (i := 740) (by decide +kernel), List.mem_of_getElem? (i := 977) (by decide +kernel), List.mem_of_getElem? (i := 978) (by decide +kernel)⟩
theorem lw_p37 : lw_okq (⟨"StarCrewModel", "roundOf", "(II)I"⟩, 20) := ⟨⟨by decide +kernel, by decide +kernel⟩, List.mem_of_getElem? (i := 740) (by decide +kernel), List.mem_of_getElem? (i := 981) (by decide +kernel), List.mem_of_getElem? (i := 982) (by decide +kernel)⟩
theorem lw_p38 : lw_okq (⟨"StarCrewModel", "walk", "(II)I"⟩, 20) := ⟨⟨by decide +kernel, by decide +kernel⟩, List.mem_of_getElem? (i := 740) (by decide +kernel), List.mem_of_getElem? (i := 985) (by decide +kernel), List.mem_of_getElem? (i := 986) (by decide +kernel)⟩
theorem lw_p39 : lw_okq (⟨"StarCrewModel", "bestOf", "(I)I"⟩, 20) := ⟨⟨by decide +kernel, by decide +kernel⟩, List.mem_of_getElem? (i := 740) (by decide +kernel), List.mem_of_getElem? (i := 993) (by decide +kernel), List.mem_of_getElem? (i := 994) (by decide +kernel)⟩
theorem lw_p40 : lw_okq (⟨"StarCrewModel", "stepsOf", "(I)I"⟩, 20) := ⟨⟨by decide +kernel, by decide +kernel⟩, List.mem_of_getElem? (i := 740) (by decide +kernel), List.mem_of_getElem? (i := 997) (by decide +kernel), List.mem_of_getElem? (i := 998) (by decide +kernel)⟩
theorem lw_p41 : lw_okq (⟨"StarCrewModel", "canShare", "(III)Z"⟩, 20) := ⟨⟨by decide +kernel, by decide +kernel⟩, List.mem_of_getElem? (i := 740) (by decide +kernel), List.mem_of_getElem? (i := 1013) (by decide +kernel), List.mem_of_getElem? (i := 1014) (by decide +kernel)⟩
theorem lw_p42 : lw_okq (⟨"StarCrewModel", "bestShare", "(III)I"⟩, 20) := ⟨⟨by decide +kernel, by decide +kernel⟩, List.mem_of_getElem? (i := 740) (by decide +kernel), List.mem_of_getElem? (i := 1017) (by decide +kernel), List.mem_of_getElem? (i := 1018) (by decide +kernel)⟩
theorem lw_p43 : lw_okq (⟨"StarCrewModel", "longerOf", "(IIII)I"⟩, 20) := ⟨⟨by decide +kernel, by decide +kernel⟩, List.mem_of_getElem? (i := 740) (by decide +kernel), List.mem_of_getElem? (i := 1021) (by decide +kernel), List.mem_of_getElem? (i := 1022) (by decide +kernel)⟩
theorem lw_p44 : lw_okq (⟨"StarCrewModel", "addsSign", "(I)V"⟩, 20) := ⟨⟨by decide +kernel, by decide +kernel⟩, List.mem_of_getElem? (i := 740) (by decide +kernel), List.mem_of_getElem? (i := 1033) (by decide +kernel), List.mem_of_getElem? (i := 1034) (by decide +kernel)⟩
theorem lw_p45 : lw_okq (⟨"StarCrewModel", "isSign", "(I)Z"⟩, 20) := ⟨⟨by decide +kernel, by decide +kernel⟩, List.mem_of_getElem? (i := 740) (by decide +kernel), List.mem_of_getElem? (i := 1041) (by decide +kernel), List.mem_of_getElem? (i := 1042) (by decide +kernel)⟩
theorem lw_p46 : lw_okq (⟨"StarCrewModel", "mayBe", "(I)I"⟩, 20) := ⟨⟨by decide +kernel, by decide +kernel⟩, List.mem_of_getElem? (i := 740) (by decide +kernel), List.mem_of_getElem? (i := 1049) (by decide +kernel), List.mem_of_getElem? (i := 1050) (by decide +kernel)⟩
theorem lw_p47 : lw_okq (⟨"StarCrewModel", "nearest", "(I)I"⟩, 20) := ⟨⟨by decide +kernel, by decide +kernel⟩, List.mem_of_getElem? (i := 740) (by decide +kernel), List.mem_of_getElem? (i := 1065) (by decide +kernel), List.mem_of_getElem? (i := 1066) (by decide +kernel)⟩
def lw_privs_3 : List (MethodName × Nat) := [(⟨"StarCrewModel", "at", "(I)I"⟩, 20), (⟨"StarCrewModel", "setsAside", "()V"⟩, 20), (⟨"StarCrewModel", "laysBack", "()V"⟩, 20), (⟨"StarCrewModel", "lastsNow", "(I)I"⟩, 20), (⟨"StarCrewModel", "isSet", "(I)Z"⟩, 20), (⟨"StarCrewModel", "roundOf", "(II)I"⟩, 20), (⟨"StarCrewModel", "walk", "(II)I"⟩, 20), (⟨"StarCrewModel", "bestOf", "(I)I"⟩, 20), (⟨"StarCrewModel", "stepsOf", "(I)I"⟩, 20), (⟨"StarCrewModel", "canShare", "(III)Z"⟩, 20), (⟨"StarCrewModel", "bestShare", "(III)I"⟩, 20), (⟨"StarCrewModel", "longerOf", "(IIII)I"⟩, 20), (⟨"StarCrewModel", "addsSign", "(I)V"⟩, 20), (⟨"StarCrewModel", "isSign", "(I)Z"⟩, 20), (⟨"StarCrewModel", "mayBe", "(I)I"⟩, 20), (⟨"StarCrewModel", "nearest", "(I)I"⟩, 20)]
theorem lw_r3 : ∀ q ∈ lw_privs_3, lw_okq q := List.forall_mem_cons.mpr ⟨lw_p32, List.forall_mem_cons.mpr ⟨lw_p33, List.forall_mem_cons.mpr ⟨lw_p34, List.forall_mem_cons.mpr ⟨lw_p35, List.forall_mem_cons.mpr ⟨lw_p36, List.forall_mem_cons.mpr ⟨lw_p37, List.forall_mem_cons.mpr ⟨lw_p38, List.forall_mem_cons.mpr ⟨lw_p39, List.forall_mem_cons.mpr ⟨lw_p40, List.forall_mem_cons.mpr ⟨lw_p41, List.forall_mem_cons.mpr ⟨lw_p42, List.forall_mem_cons.mpr ⟨lw_p43, List.forall_mem_cons.mpr ⟨lw_p44, List.forall_mem_cons.mpr ⟨lw_p45, List.forall_mem_cons.mpr ⟨lw_p46, List.forall_mem_cons.mpr ⟨lw_p47, fun _ h => absurd h List.not_mem_nil⟩⟩⟩⟩⟩⟩⟩⟩⟩⟩⟩⟩⟩⟩⟩⟩
theorem lw_p48 : lw_okq (⟨"StarCrewModel", "wrongSheet", "(I)I"⟩, 20) := ⟨⟨by decide +kernel, by decide +kernel⟩, List.mem_of_getElem? (i := 740) (by decide +kernel), List.mem_of_getElem? (i := 1077) (by decide +kernel), List.mem_of_getElem? (i := 1078) (by decide +kernel)⟩
theorem lw_p49 : lw_okq (⟨"StarCrewModel", "dimsSo", "(II)Z"⟩, 20) := ⟨⟨by decide +kernel, by decide +kernel⟩, List.mem_of_getElem? (i := 740) (by decide +kernel), List.mem_of_getElem? (i := 1084) (by decide +kernel), List.mem_of_getElem? (i := 1085) (by decide +kernel)⟩
theorem lw_p50 : lw_okq (⟨"StarCrewModel", "toldAt", "(II)I"⟩, 20) := ⟨⟨by decide +kernel, by decide +kernel⟩, List.mem_of_getElem? (i := 740) (by decide +kernel), List.mem_of_getElem? (i := 1088) (by decide +kernel), List.mem_of_getElem? (i := 1089) (by decide +kernel)⟩
theorem lw_p51 : lw_okq (⟨"StarCrewModel", "draw", "()I"⟩, 20) := ⟨⟨by decide +kernel, by decide +kernel⟩, List.mem_of_getElem? (i := 740) (by decide +kernel), List.mem_of_getElem? (i := 1100) (by decide +kernel), List.mem_of_getElem? (i := 1101) (by decide +kernel)⟩
theorem lw_p52 : lw_okq (⟨"StarCrewModel", "nextToken", "()V"⟩, 20) := ⟨⟨by decide +kernel, by decide +kernel⟩, List.mem_of_getElem? (i := 740) (by decide +kernel), List.mem_of_getElem? (i := 1126) (by decide +kernel), List.mem_of_getElem? (i := 1127) (by decide +kernel)⟩
theorem lw_p53 : lw_okq (⟨"StarCrewModel", "readsItem", "()Z"⟩, 20) := ⟨⟨by decide +kernel, by decide +kernel⟩, List.mem_of_getElem? (i := 740) (by decide +kernel), List.mem_of_getElem? (i := 1142) (by decide +kernel), List.mem_of_getElem? (i := 1143) (by decide +kernel)⟩
theorem lw_p54 : lw_okq (⟨"StarCrewModel", "wordOf", "([C)I"⟩, 20) := ⟨⟨by decide +kernel, by decide +kernel⟩, List.mem_of_getElem? (i := 740) (by decide +kernel), List.mem_of_getElem? (i := 1146) (by decide +kernel), List.mem_of_getElem? (i := 1147) (by decide +kernel)⟩
theorem lw_p55 : lw_okq (⟨"StarCrewModel", "readsStar", "(I)Z"⟩, 20) := ⟨⟨by decide +kernel, by decide +kernel⟩, List.mem_of_getElem? (i := 740) (by decide +kernel), List.mem_of_getElem? (i := 1150) (by decide +kernel), List.mem_of_getElem? (i := 1151) (by decide +kernel)⟩
theorem lw_p56 : lw_okq (⟨"StarCrewModel", "takesNumber", "(II)I"⟩, 20) := ⟨⟨by decide +kernel, by decide +kernel⟩, List.mem_of_getElem? (i := 740) (by decide +kernel), List.mem_of_getElem? (i := 1154) (by decide +kernel), List.mem_of_getElem? (i := 1155) (by decide +kernel)⟩
theorem lw_p57 : lw_okq (⟨"StarCrewModel", "readsCrew", "()Z"⟩, 20) := ⟨⟨by decide +kernel, by decide +kernel⟩, List.mem_of_getElem? (i := 740) (by decide +kernel), List.mem_of_getElem? (i := 1158) (by decide +kernel), List.mem_of_getElem? (i := 1159) (by decide +kernel)⟩
def lw_privs_4 : List (MethodName × Nat) := [(⟨"StarCrewModel", "wrongSheet", "(I)I"⟩, 20), (⟨"StarCrewModel", "dimsSo", "(II)Z"⟩, 20), (⟨"StarCrewModel", "toldAt", "(II)I"⟩, 20), (⟨"StarCrewModel", "draw", "()I"⟩, 20), (⟨"StarCrewModel", "nextToken", "()V"⟩, 20), (⟨"StarCrewModel", "readsItem", "()Z"⟩, 20), (⟨"StarCrewModel", "wordOf", "([C)I"⟩, 20), (⟨"StarCrewModel", "readsStar", "(I)Z"⟩, 20), (⟨"StarCrewModel", "takesNumber", "(II)I"⟩, 20), (⟨"StarCrewModel", "readsCrew", "()Z"⟩, 20)]
theorem lw_r4 : ∀ q ∈ lw_privs_4, lw_okq q := List.forall_mem_cons.mpr ⟨lw_p48, List.forall_mem_cons.mpr ⟨lw_p49, List.forall_mem_cons.mpr ⟨lw_p50, List.forall_mem_cons.mpr ⟨lw_p51, List.forall_mem_cons.mpr ⟨lw_p52, List.forall_mem_cons.mpr ⟨lw_p53, List.forall_mem_cons.mpr ⟨lw_p54, List.forall_mem_cons.mpr ⟨lw_p55, List.forall_mem_cons.mpr ⟨lw_p56, List.forall_mem_cons.mpr ⟨lw_p57, fun _ h => absurd h List.not_mem_nil⟩⟩⟩⟩⟩⟩⟩⟩⟩⟩
def lw_privs : List (MethodName × Nat) := lw_privs_1 ++ (lw_privs_2 ++ (lw_privs_3 ++ (lw_privs_4)))
def lw_tbl : List Cond := k2_sels lw_privs ++ tables_1
theorem lw_privs_ok : ∀ q ∈ lw_privs, lw_okq q := by
  show ∀ q ∈ lw_privs_1 ++ (lw_privs_2 ++ (lw_privs_3 ++ (lw_privs_4))), lw_okq q
  exact List.forall_mem_append.mpr ⟨lw_r1, List.forall_mem_append.mpr ⟨lw_r2, List.forall_mem_append.mpr ⟨lw_r3, lw_r4⟩⟩⟩
end
section
def RX0 : String := "StarCrew$Sheet"
def TX0 : u_T := fun k => match k with
  | 0 => ("StarCrew$Sheet", "bits", "I", false)
  | 1 => ("StarCrew$Sheet", "length", "I", false)
  | _ => ("StarCrew$Sheet", "numbers", "[I", true)
def tyX0 : Nat → FieldType := fun k => match k with
  | 0 => .int
  | 1 => .int
  | _ => .array .int
theorem nmX0 : ∀ a, a < 3 → ∀ b, b < 3 → a ≠ b → (TX0 a).2.1 ≠ (TX0 b).2.1 := by decide +kernel
theorem tyX0_ok : ∀ k, k < 3 → parseFieldDescriptor (TX0 k).2.2.1 = some (tyX0 k) := by decide +kernel
abbrev cX0_init : ByteArray := prog_2_method_1_code
def yX0_init : MethodName := ⟨RX0, "<init>", "()V"⟩
abbrev cX0_renew : ByteArray := prog_2_method_2_code
def yX0_renew : MethodName := ⟨RX0, "renew", "(II)V"⟩
abbrev cX0_put : ByteArray := prog_2_method_3_code
def yX0_put : MethodName := ⟨RX0, "put", "(II)V"⟩
abbrev cX0_hasRange : ByteArray := prog_2_method_4_code
def yX0_hasRange : MethodName := ⟨RX0, "hasRange", "(II)Z"⟩
def RX1 : String := "StarCrew$Sky"
def TX1 : u_T := fun k => match k with
  | 0 => ("StarCrew$Sky", "stars", "I", false)
  | 1 => ("StarCrew$Sky", "kind", "[I", true)
  | 2 => ("StarCrew$Sky", "place", "[I", true)
  | 3 => ("StarCrew$Sky", "life", "[I", true)
  | 4 => ("StarCrew$Sky", "worth", "[I", true)
  | 5 => ("StarCrew$Sky", "crewPlace", "[I", true)
  | 6 => ("StarCrew$Sky", "crewSteps", "[I", true)
  | 7 => ("StarCrew$Sky", "settings", "[I", true)
  | 8 => ("StarCrew$Sky", "night", "I", false)
  | 9 => ("StarCrew$Sky", "signs", "I", false)
  | 10 => ("StarCrew$Sky", "signStars", "[I", true)
  | 11 => ("StarCrew$Sky", "spots", "[I", true)
  | _ => ("StarCrew$Sky", "z", "I", false)
def tyX1 : Nat → FieldType := fun k => match k with
  | 0 => .int
  | 1 => .array .int
  | 2 => .array .int
  | 3 => .array .int
  | 4 => .array .int
  | 5 => .array .int
  | 6 => .array .int
  | 7 => .array .int
  | 8 => .int
  | 9 => .int
  | 10 => .array .int
  | 11 => .array .int
  | _ => .int
theorem nmX1 : ∀ a, a < 13 → ∀ b, b < 13 → a ≠ b → (TX1 a).2.1 ≠ (TX1 b).2.1 := by decide +kernel
theorem tyX1_ok : ∀ k, k < 13 → parseFieldDescriptor (TX1 k).2.2.1 = some (tyX1 k) := by decide +kernel
abbrev cX1_init : ByteArray := prog_3_method_1_code
def yX1_init : MethodName := ⟨RX1, "<init>", "()V"⟩
abbrev cX1_become : ByteArray := prog_3_method_2_code
def yX1_become : MethodName := ⟨RX1, "become", "(LStarCrew$Sky;)V"⟩
abbrev cX1_starRow : ByteArray := prog_3_method_3_code
def yX1_starRow : MethodName := ⟨RX1, "starRow", "(I)[I"⟩
abbrev cX1_mostOfStar : ByteArray := prog_3_method_4_code
def yX1_mostOfStar : MethodName := ⟨RX1, "mostOfStar", "(I)I"⟩
abbrev cX1_crewRow : ByteArray := prog_3_method_5_code
def yX1_crewRow : MethodName := ⟨RX1, "crewRow", "(I)[I"⟩
abbrev cX1_mostOfCrew : ByteArray := prog_3_method_6_code
def yX1_mostOfCrew : MethodName := ⟨RX1, "mostOfCrew", "(I)I"⟩
abbrev cX1_addStar : ByteArray := prog_3_method_7_code
def yX1_addStar : MethodName := ⟨RX1, "addStar", "(IIII)I"⟩
abbrev cX1_addSign : ByteArray := prog_3_method_8_code
def yX1_addSign : MethodName := ⟨RX1, "addSign", "(I)I"⟩
abbrev cX1_wearOf : ByteArray := prog_3_method_9_code
def yX1_wearOf : MethodName := ⟨RX1, "wearOf", "(III)I"⟩
abbrev cX1_dimOf : ByteArray := prog_3_method_10_code
def yX1_dimOf : MethodName := ⟨RX1, "dimOf", "(I)I"⟩
abbrev cX1_isBright : ByteArray := prog_3_method_11_code
def yX1_isBright : MethodName := ⟨RX1, "isBright", "(II)Z"⟩
abbrev cX1_lifeNext : ByteArray := prog_3_method_12_code
def yX1_lifeNext : MethodName := ⟨RX1, "lifeNext", "(III)I"⟩
abbrev cX1_lifeBehind : ByteArray := prog_3_method_13_code
def yX1_lifeBehind : MethodName := ⟨RX1, "lifeBehind", "(III)I"⟩
abbrev cX1_nightsBright : ByteArray := prog_3_method_14_code
def yX1_nightsBright : MethodName := ⟨RX1, "nightsBright", "(II)I"⟩
abbrev cX1_passNight : ByteArray := prog_3_method_15_code
def yX1_passNight : MethodName := ⟨RX1, "passNight", "()V"⟩
abbrev cX1_wearDown : ByteArray := prog_3_method_16_code
def yX1_wearDown : MethodName := ⟨RX1, "wearDown", "([I)V"⟩
abbrev cX1_mendDark : ByteArray := prog_3_method_17_code
def yX1_mendDark : MethodName := ⟨RX1, "mendDark", "([I)I"⟩
abbrev cX1_brightSet : ByteArray := prog_3_method_18_code
def yX1_brightSet : MethodName := ⟨RX1, "brightSet", "([I)I"⟩
abbrev cX1_lifeTogether : ByteArray := prog_3_method_19_code
def yX1_lifeTogether : MethodName := ⟨RX1, "lifeTogether", "()I"⟩
abbrev cX1_worthOf : ByteArray := prog_3_method_20_code
def yX1_worthOf : MethodName := ⟨RX1, "worthOf", "(I)I"⟩
abbrev cX1_signsWith : ByteArray := prog_3_method_21_code
def yX1_signsWith : MethodName := ⟨RX1, "signsWith", "(I)I"⟩
abbrev cX1_nearestOf : ByteArray := prog_3_method_22_code
def yX1_nearestOf : MethodName := ⟨RX1, "nearestOf", "(II)I"⟩
abbrev cX1_spotsHeld : ByteArray := prog_3_method_23_code
def yX1_spotsHeld : MethodName := ⟨RX1, "spotsHeld", "()I"⟩
abbrev cX1_draw : ByteArray := prog_3_method_24_code
def yX1_draw : MethodName := ⟨RX1, "draw", "()I"⟩
def RX2 : String := "StarCrew$Tape"
def TX2 : u_T := fun k => match k with
  | 0 => ("StarCrew$Tape", "bytes", "[B", true)
  | 1 => ("StarCrew$Tape", "length", "I", false)
  | 2 => ("StarCrew$Tape", "type", "I", false)
  | 3 => ("StarCrew$Tape", "start", "I", false)
  | 4 => ("StarCrew$Tape", "value", "I", false)
  | _ => ("StarCrew$Tape", "next", "I", false)
def tyX2 : Nat → FieldType := fun k => match k with
  | 0 => .array .byte
  | 1 => .int
  | 2 => .int
  | 3 => .int
  | 4 => .int
  | _ => .int
theorem nmX2 : ∀ a, a < 6 → ∀ b, b < 6 → a ≠ b → (TX2 a).2.1 ≠ (TX2 b).2.1 := by decide +kernel
theorem tyX2_ok : ∀ k, k < 6 → parseFieldDescriptor (TX2 k).2.2.1 = some (tyX2 k) := by decide +kernel
abbrev cX2_init : ByteArray := prog_4_method_1_code
def yX2_init : MethodName := ⟨RX2, "<init>", "()V"⟩
abbrev cX2_append : ByteArray := prog_4_method_2_code
def yX2_append : MethodName := ⟨RX2, "append", "(II)V"⟩
abbrev cX2_rewind : ByteArray := prog_4_method_3_code
def yX2_rewind : MethodName := ⟨RX2, "rewind", "()V"⟩
abbrev cX2_advance : ByteArray := prog_4_method_4_code
def yX2_advance : MethodName := ⟨RX2, "advance", "()V"⟩
abbrev cX2_isWord : ByteArray := prog_4_method_5_code
def yX2_isWord : MethodName := ⟨RX2, "isWord", "(Ljava/lang/String;)Z"⟩
def RX3 : String := "StarCrew$TextReader"
def TX3 : u_T := fun k => match k with
  | _ => ("StarCrew$TextReader", "tape", "LStarCrew$Tape;", true)
def tyX3 : Nat → FieldType := fun k => match k with
  | _ => .object "StarCrew$Tape"
theorem nmX3 : ∀ a, a < 1 → ∀ b, b < 1 → a ≠ b → (TX3 a).2.1 ≠ (TX3 b).2.1 := by decide +kernel
theorem tyX3_ok : ∀ k, k < 1 → parseFieldDescriptor (TX3 k).2.2.1 = some (tyX3 k) := by decide +kernel
abbrev cX3_init : ByteArray := prog_5_method_1_code
def yX3_init : MethodName := ⟨RX3, "<init>", "()V"⟩
abbrev cX3_readInto : ByteArray := prog_5_method_2_code
def yX3_readInto : MethodName := ⟨RX3, "readInto", "(LStarCrew$Sky;)I"⟩
abbrev cX3_readItem : ByteArray := prog_5_method_3_code
def yX3_readItem : MethodName := ⟨RX3, "readItem", "(LStarCrew$Sky;)Z"⟩
abbrev cX3_kindNamed : ByteArray := prog_5_method_4_code
def yX3_kindNamed : MethodName := ⟨RX3, "kindNamed", "()I"⟩
abbrev cX3_settingNamed : ByteArray := prog_5_method_5_code
def yX3_settingNamed : MethodName := ⟨RX3, "settingNamed", "()I"⟩
abbrev cX3_readStar : ByteArray := prog_5_method_6_code
def yX3_readStar : MethodName := ⟨RX3, "readStar", "(LStarCrew$Sky;I)Z"⟩
abbrev cX3_readCrew : ByteArray := prog_5_method_7_code
def yX3_readCrew : MethodName := ⟨RX3, "readCrew", "(LStarCrew$Sky;)Z"⟩
abbrev cX3_readSign : ByteArray := prog_5_method_8_code
def yX3_readSign : MethodName := ⟨RX3, "readSign", "(LStarCrew$Sky;)Z"⟩
abbrev cX3_readSetting : ByteArray := prog_5_method_9_code
def yX3_readSetting : MethodName := ⟨RX3, "readSetting", "(LStarCrew$Sky;I)Z"⟩
abbrev cX3_numberBehind : ByteArray := prog_5_method_10_code
def yX3_numberBehind : MethodName := ⟨RX3, "numberBehind", "(Ljava/lang/String;II)I"⟩
abbrev cX3_number : ByteArray := prog_5_method_11_code
def yX3_number : MethodName := ⟨RX3, "number", "(II)I"⟩
def RX4 : String := "StarCrew$Walker"
def TX4 : u_T := fun k => match k with
  | 0 => ("StarCrew$Walker", "order", "[I", true)
  | 1 => ("StarCrew$Walker", "onward", "[I", true)
  | 2 => ("StarCrew$Walker", "stars", "I", false)
  | _ => ("StarCrew$Walker", "mend", "I", false)
def tyX4 : Nat → FieldType := fun k => match k with
  | 0 => .array .int
  | 1 => .array .int
  | 2 => .int
  | _ => .int
theorem nmX4 : ∀ a, a < 4 → ∀ b, b < 4 → a ≠ b → (TX4 a).2.1 ≠ (TX4 b).2.1 := by decide +kernel
theorem tyX4_ok : ∀ k, k < 4 → parseFieldDescriptor (TX4 k).2.2.1 = some (tyX4 k) := by decide +kernel
abbrev cX4_init : ByteArray := prog_6_method_1_code
def yX4_init : MethodName := ⟨RX4, "<init>", "()V"⟩
abbrev cX4_standAt : ByteArray := prog_6_method_2_code
def yX4_standAt : MethodName := ⟨RX4, "standAt", "(LStarCrew$Sky;I)V"⟩
abbrev cX4_insert : ByteArray := prog_6_method_3_code
def yX4_insert : MethodName := ⟨RX4, "insert", "(III)V"⟩
abbrev cX4_stepsBy : ByteArray := prog_6_method_4_code
def yX4_stepsBy : MethodName := ⟨RX4, "stepsBy", "(I)I"⟩
def RX5 : String := "StarCrew"
def TX5 : u_T := fun k => match k with
  | 0 => ("StarCrew", "sky", "LStarCrew$Sky;", true)
  | 1 => ("StarCrew", "kept", "LStarCrew$Sky;", true)
  | 2 => ("StarCrew", "draft", "LStarCrew$Sky;", true)
  | 3 => ("StarCrew", "isKept", "Z", false)
  | 4 => ("StarCrew", "reader", "LStarCrew$TextReader;", true)
  | 5 => ("StarCrew", "sheets", "[LStarCrew$Sheet;", true)
  | 6 => ("StarCrew", "walker", "LStarCrew$Walker;", true)
  | 7 => ("StarCrew", "secondWalker", "LStarCrew$Walker;", true)
  | 8 => ("StarCrew", "lives", "[I", true)
  | _ => ("StarCrew", "findings", "[I", true)
def tyX5 : Nat → FieldType := fun k => match k with
  | 0 => .object "StarCrew$Sky"
  | 1 => .object "StarCrew$Sky"
  | 2 => .object "StarCrew$Sky"
  | 3 => .boolean
  | 4 => .object "StarCrew$TextReader"
  | 5 => .array (.object "StarCrew$Sheet")
  | 6 => .object "StarCrew$Walker"
  | 7 => .object "StarCrew$Walker"
  | 8 => .array .int
  | _ => .array .int
theorem nmX5 : ∀ a, a < 10 → ∀ b, b < 10 → a ≠ b → (TX5 a).2.1 ≠ (TX5 b).2.1 := by decide +kernel
theorem tyX5_ok : ∀ k, k < 10 → parseFieldDescriptor (TX5 k).2.2.1 = some (tyX5 k) := by decide +kernel
abbrev cX5_init : ByteArray := prog_1_method_1_code
def yX5_init : MethodName := ⟨RX5, "<init>", "()V"⟩
abbrev cX5_star : ByteArray := prog_1_method_2_code
def yX5_star : MethodName := ⟨RX5, "star", "(II)I"⟩
abbrev cX5_of : ByteArray := prog_1_method_3_code
def yX5_of : MethodName := ⟨RX5, "of", "(II)I"⟩
abbrev cX5_change : ByteArray := prog_1_method_4_code
def yX5_change : MethodName := ⟨RX5, "change", "(III)I"⟩
abbrev cX5_crew : ByteArray := prog_1_method_5_code
def yX5_crew : MethodName := ⟨RX5, "crew", "(III)I"⟩
abbrev cX5_crewOf : ByteArray := prog_1_method_6_code
def yX5_crewOf : MethodName := ⟨RX5, "crewOf", "(II)I"⟩
abbrev cX5_set : ByteArray := prog_1_method_7_code
def yX5_set : MethodName := ⟨RX5, "set", "(II)I"⟩
abbrev cX5_apart : ByteArray := prog_1_method_8_code
def yX5_apart : MethodName := ⟨RX5, "apart", "(II)I"⟩
abbrev cX5_go : ByteArray := prog_1_method_9_code
def yX5_go : MethodName := ⟨RX5, "go", "(I)I"⟩
abbrev cX5_now : ByteArray := prog_1_method_10_code
def yX5_now : MethodName := ⟨RX5, "now", "(I)I"⟩
abbrev cX5_mends : ByteArray := prog_1_method_11_code
def yX5_mends : MethodName := ⟨RX5, "mends", "(II)I"⟩
abbrev cX5_ahead : ByteArray := prog_1_method_12_code
def yX5_ahead : MethodName := ⟨RX5, "ahead", "(II)I"⟩
abbrev cX5_lasts : ByteArray := prog_1_method_13_code
def yX5_lasts : MethodName := ⟨RX5, "lasts", "(I)I"⟩
abbrev cX5_shine : ByteArray := prog_1_method_14_code
def yX5_shine : MethodName := ⟨RX5, "shine", "(I)I"⟩
abbrev cX5_dark : ByteArray := prog_1_method_15_code
def yX5_dark : MethodName := ⟨RX5, "dark", "(I)I"⟩
abbrev cX5_kindFor : ByteArray := prog_1_method_16_code
def yX5_kindFor : MethodName := ⟨RX5, "kindFor", "(I)I"⟩
abbrev cX5_dustFor : ByteArray := prog_1_method_17_code
def yX5_dustFor : MethodName := ⟨RX5, "dustFor", "(II)I"⟩
abbrev cX5_uses : ByteArray := prog_1_method_18_code
def yX5_uses : MethodName := ⟨RX5, "uses", "(I)I"⟩
abbrev cX5_round : ByteArray := prog_1_method_19_code
def yX5_round : MethodName := ⟨RX5, "round", "(II)I"⟩
abbrev cX5_best : ByteArray := prog_1_method_20_code
def yX5_best : MethodName := ⟨RX5, "best", "(I)I"⟩
abbrev cX5_bestWorth : ByteArray := prog_1_method_21_code
def yX5_bestWorth : MethodName := ⟨RX5, "bestWorth", "(I)I"⟩
abbrev cX5_from : ByteArray := prog_1_method_22_code
def yX5_from : MethodName := ⟨RX5, "from", "(II)I"⟩
abbrev cX5_share : ByteArray := prog_1_method_23_code
def yX5_share : MethodName := ⟨RX5, "share", "(III)I"⟩
abbrev cX5_longer : ByteArray := prog_1_method_24_code
def yX5_longer : MethodName := ⟨RX5, "longer", "(III)I"⟩
abbrev cX5_sign : ByteArray := prog_1_method_25_code
def yX5_sign : MethodName := ⟨RX5, "sign", "(I)I"⟩
abbrev cX5_signOf : ByteArray := prog_1_method_26_code
def yX5_signOf : MethodName := ⟨RX5, "signOf", "(I)I"⟩
abbrev cX5_may : ByteArray := prog_1_method_27_code
def yX5_may : MethodName := ⟨RX5, "may", "(I)I"⟩
abbrev cX5_tells : ByteArray := prog_1_method_28_code
def yX5_tells : MethodName := ⟨RX5, "tells", "(I)I"⟩
abbrev cX5_told : ByteArray := prog_1_method_29_code
def yX5_told : MethodName := ⟨RX5, "told", "()I"⟩
abbrev cX5_steers : ByteArray := prog_1_method_30_code
def yX5_steers : MethodName := ⟨RX5, "steers", "(I)I"⟩
abbrev cX5_sees : ByteArray := prog_1_method_31_code
def yX5_sees : MethodName := ⟨RX5, "sees", "(I)I"⟩
abbrev cX5_which : ByteArray := prog_1_method_32_code
def yX5_which : MethodName := ⟨RX5, "which", "(I)I"⟩
abbrev cX5_kinds : ByteArray := prog_1_method_33_code
def yX5_kinds : MethodName := ⟨RX5, "kinds", "(II)I"⟩
abbrev cX5_drops : ByteArray := prog_1_method_34_code
def yX5_drops : MethodName := ⟨RX5, "drops", "(I)I"⟩
abbrev cX5_odds : ByteArray := prog_1_method_35_code
def yX5_odds : MethodName := ⟨RX5, "odds", "(II)J"⟩
abbrev cX5_seed : ByteArray := prog_1_method_36_code
def yX5_seed : MethodName := ⟨RX5, "seed", "(I)I"⟩
abbrev cX5_feed : ByteArray := prog_1_method_37_code
def yX5_feed : MethodName := ⟨RX5, "feed", "(II)I"⟩
abbrev cX5_wipe : ByteArray := prog_1_method_38_code
def yX5_wipe : MethodName := ⟨RX5, "wipe", "()I"⟩
abbrev cX5_text : ByteArray := prog_1_method_39_code
def yX5_text : MethodName := ⟨RX5, "text", "()I"⟩
abbrev cX5_hold : ByteArray := prog_1_method_40_code
def yX5_hold : MethodName := ⟨RX5, "hold", "(II)I"⟩
abbrev cX5_as : ByteArray := prog_1_method_41_code
def yX5_as : MethodName := ⟨RX5, "as", "(II)I"⟩
abbrev cX5_sheet : ByteArray := prog_1_method_42_code
def yX5_sheet : MethodName := ⟨RX5, "sheet", "(III)I"⟩
abbrev cX5_write : ByteArray := prog_1_method_43_code
def yX5_write : MethodName := ⟨RX5, "write", "(III)I"⟩
abbrev cX5_copy : ByteArray := prog_1_method_44_code
def yX5_copy : MethodName := ⟨RX5, "copy", "(IIIII)I"⟩
abbrev cX5_load : ByteArray := prog_1_method_45_code
def yX5_load : MethodName := ⟨RX5, "load", "(I)I"⟩
abbrev cX5_judge : ByteArray := prog_1_method_46_code
def yX5_judge : MethodName := ⟨RX5, "judge", "(I)I"⟩
abbrev cX5_image : ByteArray := prog_1_method_47_code
def yX5_image : MethodName := ⟨RX5, "image", "()I"⟩
abbrev cX5_undo : ByteArray := prog_1_method_48_code
def yX5_undo : MethodName := ⟨RX5, "undo", "()I"⟩
abbrev cX5_tear : ByteArray := prog_1_method_49_code
def yX5_tear : MethodName := ⟨RX5, "tear", "()I"⟩
abbrev cX5_count : ByteArray := prog_1_method_50_code
def yX5_count : MethodName := ⟨RX5, "count", "(I)I"⟩
abbrev cX5_status : ByteArray := prog_1_method_51_code
def yX5_status : MethodName := ⟨RX5, "status", "(I)I"⟩
abbrev cX5_finding : ByteArray := prog_1_method_52_code
def yX5_finding : MethodName := ⟨RX5, "finding", "(I)I"⟩
abbrev cX5_isBelow : ByteArray := prog_1_method_53_code
def yX5_isBelow : MethodName := ⟨RX5, "isBelow", "(II)Z"⟩
abbrev cX5_isWithin : ByteArray := prog_1_method_54_code
def yX5_isWithin : MethodName := ⟨RX5, "isWithin", "(II)Z"⟩
abbrev cX5_isSetOfStars : ByteArray := prog_1_method_55_code
def yX5_isSetOfStars : MethodName := ⟨RX5, "isSetOfStars", "(I)Z"⟩
abbrev cX5_replaced : ByteArray := prog_1_method_56_code
def yX5_replaced : MethodName := ⟨RX5, "replaced", "([III)I"⟩
abbrev cX5_stepsBetween : ByteArray := prog_1_method_57_code
def yX5_stepsBetween : MethodName := ⟨RX5, "stepsBetween", "(II)I"⟩
abbrev cX5_power : ByteArray := prog_1_method_58_code
def yX5_power : MethodName := ⟨RX5, "power", "(II)J"⟩
abbrev cX5_isUnder : ByteArray := prog_1_method_59_code
def yX5_isUnder : MethodName := ⟨RX5, "isUnder", "(II)Z"⟩
abbrev cX5_kindOver : ByteArray := prog_1_method_60_code
def yX5_kindOver : MethodName := ⟨RX5, "kindOver", "(I)I"⟩
abbrev cX5_copyLives : ByteArray := prog_1_method_61_code
def yX5_copyLives : MethodName := ⟨RX5, "copyLives", "()V"⟩
abbrev cX5_bestSet : ByteArray := prog_1_method_62_code
def yX5_bestSet : MethodName := ⟨RX5, "bestSet", "(I)I"⟩
abbrev cX5_canShare : ByteArray := prog_1_method_63_code
def yX5_canShare : MethodName := ⟨RX5, "canShare", "(III)Z"⟩
abbrev cX5_firstShare : ByteArray := prog_1_method_64_code
def yX5_firstShare : MethodName := ⟨RX5, "firstShare", "(III)I"⟩
abbrev cX5_longerWay : ByteArray := prog_1_method_65_code
def yX5_longerWay : MethodName := ⟨RX5, "longerWay", "(II)I"⟩
abbrev cX5_lackOfSheet : ByteArray := prog_1_method_66_code
def yX5_lackOfSheet : MethodName := ⟨RX5, "lackOfSheet", "(I)I"⟩
abbrev cX5_isAsSheet : ByteArray := prog_1_method_67_code
def yX5_isAsSheet : MethodName := ⟨RX5, "isAsSheet", "(LStarCrew$Sheet;II)Z"⟩
def RX6 : String := "StarCrewModel"
def TX6 : u_T := fun k => match k with
  | 0 => ("StarCrewModel", "s", "[I", true)
  | 1 => ("StarCrewModel", "kept", "[I", true)
  | 2 => ("StarCrewModel", "aside", "[I", true)
  | 3 => ("StarCrewModel", "isKept", "Z", false)
  | 4 => ("StarCrewModel", "found", "[I", true)
  | 5 => ("StarCrewModel", "offs", "[I", true)
  | 6 => ("StarCrewModel", "tape", "[I", true)
  | 7 => ("StarCrewModel", "taped", "I", false)
  | 8 => ("StarCrewModel", "token", "I", false)
  | 9 => ("StarCrewModel", "begun", "I", false)
  | 10 => ("StarCrewModel", "ended", "I", false)
  | 11 => ("StarCrewModel", "value", "J", false)
  | 12 => ("StarCrewModel", "letters", "[C", true)
  | 13 => ("StarCrewModel", "more", "[C", true)
  | 14 => ("StarCrewModel", "about", "[C", true)
  | 15 => ("StarCrewModel", "others", "[C", true)
  | 16 => ("StarCrewModel", "widths", "[I", true)
  | 17 => ("StarCrewModel", "sizes", "[I", true)
  | 18 => ("StarCrewModel", "cells", "[I", true)
  | _ => ("StarCrewModel", "carried", "[I", true)
def tyX6 : Nat → FieldType := fun k => match k with
  | 0 => .array .int
  | 1 => .array .int
  | 2 => .array .int
  | 3 => .boolean
  | 4 => .array .int
  | 5 => .array .int
  | 6 => .array .int
  | 7 => .int
  | 8 => .int
  | 9 => .int
  | 10 => .int
  | 11 => .long
  | 12 => .array .char
  | 13 => .array .char
  | 14 => .array .char
  | 15 => .array .char
  | 16 => .array .int
  | 17 => .array .int
  | 18 => .array .int
  | _ => .array .int
theorem nmX6 : ∀ a, a < 20 → ∀ b, b < 20 → a ≠ b → (TX6 a).2.1 ≠ (TX6 b).2.1 := by decide +kernel
theorem tyX6_ok : ∀ k, k < 20 → parseFieldDescriptor (TX6 k).2.2.1 = some (tyX6 k) := by decide +kernel
abbrev cX6_init : ByteArray := prog_8_method_1_code
def yX6_init : MethodName := ⟨RX6, "<init>", "()V"⟩
abbrev cX6_no : ByteArray := prog_8_method_2_code
def yX6_no : MethodName := ⟨RX6, "no", "(I)I"⟩
abbrev cX6_in1 : ByteArray := prog_8_method_3_code
def yX6_in1 : MethodName := ⟨RX6, "in1", "(III)Z"⟩
abbrev cX6_less : ByteArray := prog_8_method_4_code
def yX6_less : MethodName := ⟨RX6, "less", "(II)I"⟩
abbrev cX6_greater : ByteArray := prog_8_method_5_code
def yX6_greater : MethodName := ⟨RX6, "greater", "(II)I"⟩
abbrev cX6_bits : ByteArray := prog_8_method_6_code
def yX6_bits : MethodName := ⟨RX6, "bits", "(I)I"⟩
abbrev cX6_isIn : ByteArray := prog_8_method_7_code
def yX6_isIn : MethodName := ⟨RX6, "isIn", "(II)Z"⟩
abbrev cX6_isPlace : ByteArray := prog_8_method_8_code
def yX6_isPlace : MethodName := ⟨RX6, "isPlace", "(I)Z"⟩
abbrev cX6_isCrew : ByteArray := prog_8_method_9_code
def yX6_isCrew : MethodName := ⟨RX6, "isCrew", "(I)Z"⟩
abbrev cX6_isStar : ByteArray := prog_8_method_10_code
def yX6_isStar : MethodName := ⟨RX6, "isStar", "(I)Z"⟩
abbrev cX6_isSet : ByteArray := prog_8_method_11_code
def yX6_isSet : MethodName := ⟨RX6, "isSet", "(I)Z"⟩
abbrev cX6_get : ByteArray := prog_8_method_12_code
def yX6_get : MethodName := ⟨RX6, "get", "(II)I"⟩
abbrev cX6_puts : ByteArray := prog_8_method_13_code
def yX6_puts : MethodName := ⟨RX6, "puts", "(III)V"⟩
abbrev cX6_at : ByteArray := prog_8_method_14_code
def yX6_at : MethodName := ⟨RX6, "at", "(I)I"⟩
abbrev cX6_stepsOf : ByteArray := prog_8_method_15_code
def yX6_stepsOf : MethodName := ⟨RX6, "stepsOf", "(I)I"⟩
abbrev cX6_setsAside : ByteArray := prog_8_method_16_code
def yX6_setsAside : MethodName := ⟨RX6, "setsAside", "()V"⟩
abbrev cX6_laysBack : ByteArray := prog_8_method_17_code
def yX6_laysBack : MethodName := ⟨RX6, "laysBack", "()V"⟩
abbrev cX6_wearOf : ByteArray := prog_8_method_18_code
def yX6_wearOf : MethodName := ⟨RX6, "wearOf", "(I)I"⟩
abbrev cX6_dimOf : ByteArray := prog_8_method_19_code
def yX6_dimOf : MethodName := ⟨RX6, "dimOf", "(I)I"⟩
abbrev cX6_shines : ByteArray := prog_8_method_20_code
def yX6_shines : MethodName := ⟨RX6, "shines", "(I)Z"⟩
abbrev cX6_shining : ByteArray := prog_8_method_21_code
def yX6_shining : MethodName := ⟨RX6, "shining", "()I"⟩
abbrev cX6_lives : ByteArray := prog_8_method_22_code
def yX6_lives : MethodName := ⟨RX6, "lives", "()I"⟩
abbrev cX6_worthOf : ByteArray := prog_8_method_23_code
def yX6_worthOf : MethodName := ⟨RX6, "worthOf", "(I)I"⟩
abbrev cX6_night : ByteArray := prog_8_method_24_code
def yX6_night : MethodName := ⟨RX6, "night", "()V"⟩
abbrev cX6_nights : ByteArray := prog_8_method_25_code
def yX6_nights : MethodName := ⟨RX6, "nights", "(I)V"⟩
abbrev cX6_addsStar : ByteArray := prog_8_method_26_code
def yX6_addsStar : MethodName := ⟨RX6, "addsStar", "(II)V"⟩
abbrev cX6_star : ByteArray := prog_8_method_27_code
def yX6_star : MethodName := ⟨RX6, "star", "(II)I"⟩
abbrev cX6_of : ByteArray := prog_8_method_28_code
def yX6_of : MethodName := ⟨RX6, "of", "(II)I"⟩
abbrev cX6_change : ByteArray := prog_8_method_29_code
def yX6_change : MethodName := ⟨RX6, "change", "(III)I"⟩
abbrev cX6_crew : ByteArray := prog_8_method_30_code
def yX6_crew : MethodName := ⟨RX6, "crew", "(III)I"⟩
abbrev cX6_crewOf : ByteArray := prog_8_method_31_code
def yX6_crewOf : MethodName := ⟨RX6, "crewOf", "(II)I"⟩
abbrev cX6_greatest : ByteArray := prog_8_method_32_code
def yX6_greatest : MethodName := ⟨RX6, "greatest", "(I)I"⟩
abbrev cX6_set : ByteArray := prog_8_method_33_code
def yX6_set : MethodName := ⟨RX6, "set", "(II)I"⟩
abbrev cX6_apartOf : ByteArray := prog_8_method_34_code
def yX6_apartOf : MethodName := ⟨RX6, "apartOf", "(II)I"⟩
abbrev cX6_apart : ByteArray := prog_8_method_35_code
def yX6_apart : MethodName := ⟨RX6, "apart", "(II)I"⟩
abbrev cX6_go : ByteArray := prog_8_method_36_code
def yX6_go : MethodName := ⟨RX6, "go", "(I)I"⟩
abbrev cX6_now : ByteArray := prog_8_method_37_code
def yX6_now : MethodName := ⟨RX6, "now", "(I)I"⟩
abbrev cX6_mends : ByteArray := prog_8_method_38_code
def yX6_mends : MethodName := ⟨RX6, "mends", "(II)I"⟩
abbrev cX6_ahead : ByteArray := prog_8_method_39_code
def yX6_ahead : MethodName := ⟨RX6, "ahead", "(II)I"⟩
abbrev cX6_lastsNow : ByteArray := prog_8_method_40_code
def yX6_lastsNow : MethodName := ⟨RX6, "lastsNow", "(I)I"⟩
abbrev cX6_lasts : ByteArray := prog_8_method_41_code
def yX6_lasts : MethodName := ⟨RX6, "lasts", "(I)I"⟩
abbrev cX6_shine : ByteArray := prog_8_method_42_code
def yX6_shine : MethodName := ⟨RX6, "shine", "(I)I"⟩
abbrev cX6_dark : ByteArray := prog_8_method_43_code
def yX6_dark : MethodName := ⟨RX6, "dark", "(I)I"⟩
abbrev cX6_kindFor : ByteArray := prog_8_method_44_code
def yX6_kindFor : MethodName := ⟨RX6, "kindFor", "(I)I"⟩
abbrev cX6_dustFor : ByteArray := prog_8_method_45_code
def yX6_dustFor : MethodName := ⟨RX6, "dustFor", "(II)I"⟩
abbrev cX6_uses : ByteArray := prog_8_method_46_code
def yX6_uses : MethodName := ⟨RX6, "uses", "(I)I"⟩
abbrev cX6_walk : ByteArray := prog_8_method_47_code
def yX6_walk : MethodName := ⟨RX6, "walk", "(II)I"⟩
abbrev cX6_roundOf : ByteArray := prog_8_method_48_code
def yX6_roundOf : MethodName := ⟨RX6, "roundOf", "(II)I"⟩
abbrev cX6_round : ByteArray := prog_8_method_49_code
def yX6_round : MethodName := ⟨RX6, "round", "(II)I"⟩
abbrev cX6_bestOf : ByteArray := prog_8_method_50_code
def yX6_bestOf : MethodName := ⟨RX6, "bestOf", "(I)I"⟩
abbrev cX6_best : ByteArray := prog_8_method_51_code
def yX6_best : MethodName := ⟨RX6, "best", "(I)I"⟩
abbrev cX6_bestWorth : ByteArray := prog_8_method_52_code
def yX6_bestWorth : MethodName := ⟨RX6, "bestWorth", "(I)I"⟩
abbrev cX6_from : ByteArray := prog_8_method_53_code
def yX6_from : MethodName := ⟨RX6, "from", "(II)I"⟩
abbrev cX6_longerOf : ByteArray := prog_8_method_54_code
def yX6_longerOf : MethodName := ⟨RX6, "longerOf", "(IIII)I"⟩
abbrev cX6_bestShare : ByteArray := prog_8_method_55_code
def yX6_bestShare : MethodName := ⟨RX6, "bestShare", "(III)I"⟩
abbrev cX6_canShare : ByteArray := prog_8_method_56_code
def yX6_canShare : MethodName := ⟨RX6, "canShare", "(III)Z"⟩
abbrev cX6_share : ByteArray := prog_8_method_57_code
def yX6_share : MethodName := ⟨RX6, "share", "(III)I"⟩
abbrev cX6_longer : ByteArray := prog_8_method_58_code
def yX6_longer : MethodName := ⟨RX6, "longer", "(III)I"⟩
abbrev cX6_addsSign : ByteArray := prog_8_method_59_code
def yX6_addsSign : MethodName := ⟨RX6, "addsSign", "(I)V"⟩
abbrev cX6_sign : ByteArray := prog_8_method_60_code
def yX6_sign : MethodName := ⟨RX6, "sign", "(I)I"⟩
abbrev cX6_isSign : ByteArray := prog_8_method_61_code
def yX6_isSign : MethodName := ⟨RX6, "isSign", "(I)Z"⟩
abbrev cX6_signOf : ByteArray := prog_8_method_62_code
def yX6_signOf : MethodName := ⟨RX6, "signOf", "(I)I"⟩
abbrev cX6_mayBe : ByteArray := prog_8_method_63_code
def yX6_mayBe : MethodName := ⟨RX6, "mayBe", "(I)I"⟩
abbrev cX6_may : ByteArray := prog_8_method_64_code
def yX6_may : MethodName := ⟨RX6, "may", "(I)I"⟩
abbrev cX6_tells : ByteArray := prog_8_method_65_code
def yX6_tells : MethodName := ⟨RX6, "tells", "(I)I"⟩
abbrev cX6_told : ByteArray := prog_8_method_66_code
def yX6_told : MethodName := ⟨RX6, "told", "()I"⟩
abbrev cX6_nearest : ByteArray := prog_8_method_67_code
def yX6_nearest : MethodName := ⟨RX6, "nearest", "(I)I"⟩
abbrev cX6_steers : ByteArray := prog_8_method_68_code
def yX6_steers : MethodName := ⟨RX6, "steers", "(I)I"⟩
abbrev cX6_sees : ByteArray := prog_8_method_69_code
def yX6_sees : MethodName := ⟨RX6, "sees", "(I)I"⟩
abbrev cX6_isSheet : ByteArray := prog_8_method_70_code
def yX6_isSheet : MethodName := ⟨RX6, "isSheet", "(I)Z"⟩
abbrev cX6_wrongSheet : ByteArray := prog_8_method_71_code
def yX6_wrongSheet : MethodName := ⟨RX6, "wrongSheet", "(I)I"⟩
abbrev cX6_toldAt : ByteArray := prog_8_method_72_code
def yX6_toldAt : MethodName := ⟨RX6, "toldAt", "(II)I"⟩
abbrev cX6_dimsSo : ByteArray := prog_8_method_73_code
def yX6_dimsSo : MethodName := ⟨RX6, "dimsSo", "(II)Z"⟩
abbrev cX6_which : ByteArray := prog_8_method_74_code
def yX6_which : MethodName := ⟨RX6, "which", "(I)I"⟩
abbrev cX6_kinds : ByteArray := prog_8_method_75_code
def yX6_kinds : MethodName := ⟨RX6, "kinds", "(II)I"⟩
abbrev cX6_draw : ByteArray := prog_8_method_76_code
def yX6_draw : MethodName := ⟨RX6, "draw", "()I"⟩
abbrev cX6_drops : ByteArray := prog_8_method_77_code
def yX6_drops : MethodName := ⟨RX6, "drops", "(I)I"⟩
abbrev cX6_odds : ByteArray := prog_8_method_78_code
def yX6_odds : MethodName := ⟨RX6, "odds", "(II)J"⟩
abbrev cX6_seed : ByteArray := prog_8_method_79_code
def yX6_seed : MethodName := ⟨RX6, "seed", "(I)I"⟩
abbrev cX6_feed : ByteArray := prog_8_method_80_code
def yX6_feed : MethodName := ⟨RX6, "feed", "(II)I"⟩
abbrev cX6_wipe : ByteArray := prog_8_method_81_code
def yX6_wipe : MethodName := ⟨RX6, "wipe", "()I"⟩
abbrev cX6_isLetter : ByteArray := prog_8_method_82_code
def yX6_isLetter : MethodName := ⟨RX6, "isLetter", "(I)Z"⟩
abbrev cX6_isDigit : ByteArray := prog_8_method_83_code
def yX6_isDigit : MethodName := ⟨RX6, "isDigit", "(I)Z"⟩
abbrev cX6_nextToken : ByteArray := prog_8_method_84_code
def yX6_nextToken : MethodName := ⟨RX6, "nextToken", "()V"⟩
abbrev cX6_wordOf : ByteArray := prog_8_method_85_code
def yX6_wordOf : MethodName := ⟨RX6, "wordOf", "([C)I"⟩
abbrev cX6_takesNumber : ByteArray := prog_8_method_86_code
def yX6_takesNumber : MethodName := ⟨RX6, "takesNumber", "(II)I"⟩
abbrev cX6_readsStar : ByteArray := prog_8_method_87_code
def yX6_readsStar : MethodName := ⟨RX6, "readsStar", "(I)Z"⟩
abbrev cX6_readsCrew : ByteArray := prog_8_method_88_code
def yX6_readsCrew : MethodName := ⟨RX6, "readsCrew", "()Z"⟩
abbrev cX6_readsItem : ByteArray := prog_8_method_89_code
def yX6_readsItem : MethodName := ⟨RX6, "readsItem", "()Z"⟩
abbrev cX6_text : ByteArray := prog_8_method_90_code
def yX6_text : MethodName := ⟨RX6, "text", "()I"⟩
abbrev cX6_isSpot : ByteArray := prog_8_method_91_code
def yX6_isSpot : MethodName := ⟨RX6, "isSpot", "(I)Z"⟩
abbrev cX6_hold : ByteArray := prog_8_method_92_code
def yX6_hold : MethodName := ⟨RX6, "hold", "(II)I"⟩
abbrev cX6_above : ByteArray := prog_8_method_93_code
def yX6_above : MethodName := ⟨RX6, "above", "(I)I"⟩
abbrev cX6_as : ByteArray := prog_8_method_94_code
def yX6_as : MethodName := ⟨RX6, "as", "(II)I"⟩
abbrev cX6_sheet : ByteArray := prog_8_method_95_code
def yX6_sheet : MethodName := ⟨RX6, "sheet", "(III)I"⟩
abbrev cX6_write : ByteArray := prog_8_method_96_code
def yX6_write : MethodName := ⟨RX6, "write", "(III)I"⟩
abbrev cX6_copy : ByteArray := prog_8_method_97_code
def yX6_copy : MethodName := ⟨RX6, "copy", "(IIIII)I"⟩
abbrev cX6_load : ByteArray := prog_8_method_98_code
def yX6_load : MethodName := ⟨RX6, "load", "(I)I"⟩
abbrev cX6_judge : ByteArray := prog_8_method_99_code
def yX6_judge : MethodName := ⟨RX6, "judge", "(I)I"⟩
abbrev cX6_image : ByteArray := prog_8_method_100_code
def yX6_image : MethodName := ⟨RX6, "image", "()I"⟩
abbrev cX6_undo : ByteArray := prog_8_method_101_code
def yX6_undo : MethodName := ⟨RX6, "undo", "()I"⟩
abbrev cX6_tear : ByteArray := prog_8_method_102_code
def yX6_tear : MethodName := ⟨RX6, "tear", "()I"⟩
abbrev cX6_count : ByteArray := prog_8_method_103_code
def yX6_count : MethodName := ⟨RX6, "count", "(I)I"⟩
abbrev cX6_status : ByteArray := prog_8_method_104_code
def yX6_status : MethodName := ⟨RX6, "status", "(I)I"⟩
def RJx145de : String := "java/io/Serializable"
def TJx145de : u_T := fun k => match k with
  | _ => ("", "", "", false)
def tyJx145de : Nat → FieldType := fun k => match k with
  | _ => .int
def RJx9f9b0 : String := "java/lang/CharSequence"
def TJx9f9b0 : u_T := fun k => match k with
  | _ => ("", "", "", false)
def tyJx9f9b0 : Nat → FieldType := fun k => match k with
  | _ => .int
def RJxb160c : String := "java/lang/Comparable"
def TJxb160c : u_T := fun k => match k with
  | _ => ("", "", "", false)
def tyJxb160c : Nat → FieldType := fun k => match k with
  | _ => .int
def RJ6 : String := "java/lang/Integer"
def TJ6 : u_T := fun k => match k with
  | _ => ("", "", "", false)
def tyJ6 : Nat → FieldType := fun k => match k with
  | _ => .int
abbrev cJ6_bitCount_0f7a4 : ByteArray := prog_9_method_49_code
def yJ6_bitCount_0f7a4 : MethodName := ⟨RJ6, "bitCount", "(I)I"⟩
def RJ9 : String := "java/lang/Math"
def TJ9 : u_T := fun k => match k with
  | _ => ("", "", "", false)
def tyJ9 : Nat → FieldType := fun k => match k with
  | _ => .int
abbrev cJ9_abs_0f7a4 : ByteArray := prog_10_method_59_code
def yJ9_abs_0f7a4 : MethodName := ⟨RJ9, "abs", "(I)I"⟩
abbrev cJ9_max_7cf53 : ByteArray := prog_10_method_65_code
def yJ9_max_7cf53 : MethodName := ⟨RJ9, "max", "(II)I"⟩
abbrev cJ9_min_7cf53 : ByteArray := prog_10_method_69_code
def yJ9_min_7cf53 : MethodName := ⟨RJ9, "min", "(II)I"⟩
def RJ0 : String := "java/lang/String"
def TJ0 : u_T := fun k => match k with
  | _ => ("", "", "", false)
def tyJ0 : Nat → FieldType := fun k => match k with
  | _ => .int
abbrev cJ0_length_8abf5 : ByteArray := prog_11_method_54_code
def yJ0_length_8abf5 : MethodName := ⟨RJ0, "length", "()I"⟩
abbrev cJ0_charAt_5068e : ByteArray := prog_11_method_56_code
def yJ0_charAt_5068e : MethodName := ⟨RJ0, "charAt", "(I)C"⟩
abbrev cJ0_coder_7d493 : ByteArray := prog_11_method_152_code
def yJ0_coder_7d493 : MethodName := ⟨RJ0, "coder", "()B"⟩
abbrev cJ0_isLatin1_aae02 : ByteArray := prog_11_method_154_code
def yJ0_isLatin1_aae02 : MethodName := ⟨RJ0, "isLatin1", "()Z"⟩
abbrev cJ0_checkIndex_df160 : ByteArray := prog_11_method_155_code
def yJ0_checkIndex_df160 : MethodName := ⟨RJ0, "checkIndex", "(II)V"⟩
def RJ1 : String := "java/lang/StringLatin1"
def TJ1 : u_T := fun k => match k with
  | _ => ("", "", "", false)
def tyJ1 : Nat → FieldType := fun k => match k with
  | _ => .int
abbrev cJ1_charAt_3b067 : ByteArray := prog_12_method_2_code
def yJ1_charAt_3b067 : MethodName := ⟨RJ1, "charAt", "([BI)C"⟩
def RJ2 : String := "java/lang/StringUTF16"
def TJ2 : u_T := fun k => match k with
  | _ => ("", "", "", false)
def tyJ2 : Nat → FieldType := fun k => match k with
  | _ => .int
abbrev cJ2_getChar_3b067 : ByteArray := prog_13_method_5_code
def yJ2_getChar_3b067 : MethodName := ⟨RJ2, "getChar", "([BI)C"⟩
abbrev cJ2_length_9d52b : ByteArray := prog_13_method_6_code
def yJ2_length_9d52b : MethodName := ⟨RJ2, "length", "([B)I"⟩
abbrev cJ2_charAt_3b067 : ByteArray := prog_13_method_83_code
def yJ2_charAt_3b067 : MethodName := ⟨RJ2, "charAt", "([BI)C"⟩
abbrev cJ2_checkIndex_2214a : ByteArray := prog_13_method_91_code
def yJ2_checkIndex_2214a : MethodName := ⟨RJ2, "checkIndex", "(I[B)V"⟩
def RJ10 : String := "java/lang/System"
def TJ10 : u_T := fun k => match k with
  | _ => ("", "", "", false)
def tyJ10 : Nat → FieldType := fun k => match k with
  | _ => .int
def RJxfd54e : String := "java/lang/constant/Constable"
def TJxfd54e : u_T := fun k => match k with
  | _ => ("", "", "", false)
def tyJxfd54e : Nat → FieldType := fun k => match k with
  | _ => .int
def RJx3cf43 : String := "java/lang/constant/ConstantDesc"
def TJx3cf43 : u_T := fun k => match k with
  | _ => ("", "", "", false)
def tyJx3cf43 : Nat → FieldType := fun k => match k with
  | _ => .int
def RJ7 : String := "java/util/Arrays"
def TJ7 : u_T := fun k => match k with
  | _ => ("", "", "", false)
def tyJ7 : Nat → FieldType := fun k => match k with
  | _ => .int
abbrev cJ7_fill_53178 : ByteArray := prog_15_method_103_code
def yJ7_fill_53178 : MethodName := ⟨RJ7, "fill", "([II)V"⟩
def RJ3 : String := "jdk/internal/util/Preconditions"
def TJ3 : u_T := fun k => match k with
  | _ => ("", "", "", false)
def tyJ3 : Nat → FieldType := fun k => match k with
  | _ => .int
abbrev cJ3_checkIndex_8e157 : ByteArray := prog_16_method_11_code
def yJ3_checkIndex_8e157 : MethodName := ⟨RJ3, "checkIndex", "(IILjava/util/function/BiFunction;)I"⟩
def RL : String := "StarCrewLaw"
abbrev cL_law : ByteArray := code
def yL_law : MethodName := ⟨RL, "law", "([I)Z"⟩
abbrev vwCl : List vw_C := [(RX0, TX0, 3), (RX1, TX1, 13), (RX2, TX2, 6), (RX3, TX3, 1), (RX4, TX4, 4), (RX5, TX5, 10), (RX6, TX6, 20)]
end
section
theorem dX0_init_0 : decode cX0_init 0 = .ok (.aload_n 0, 1) := by decide +kernel
theorem dX0_init_1 : decode cX0_init 1 = .ok (.invokespecial 3, 3) := by decide +kernel
theorem dX0_init_4 : decode cX0_init 4 = .ok (.aload_n 0, 1) := by decide +kernel
theorem dX0_init_5 : decode cX0_init 5 = .ok (.iconst 0, 1) := by decide +kernel
theorem dX0_init_6 : decode cX0_init 6 = .ok (.putfield 9, 3) := by decide +kernel
theorem dX0_init_9 : decode cX0_init 9 = .ok (.aload_n 0, 1) := by decide +kernel
theorem dX0_init_10 : decode cX0_init 10 = .ok (.iconst 0, 1) := by decide +kernel
theorem dX0_init_11 : decode cX0_init 11 = .ok (.putfield 15, 3) := by decide +kernel
theorem dX0_init_14 : decode cX0_init 14 = .ok (.aload_n 0, 1) := by decide +kernel
theorem dX0_init_15 : decode cX0_init 15 = .ok (.bipush 40, 2) := by decide +kernel
theorem dX0_init_17 : decode cX0_init 17 = .ok (.newarray .int, 2) := by decide +kernel
theorem dX0_init_19 : decode cX0_init 19 = .ok (.putfield 18, 3) := by decide +kernel
theorem dX0_init_22 : decode cX0_init 22 = .ok (.return_, 1) := by decide +kernel
theorem dX0_renew_0 : decode cX0_renew 0 = .ok (.aload_n 0, 1) := by decide +kernel
theorem dX0_renew_1 : decode cX0_renew 1 = .ok (.iload_n 1, 1) := by decide +kernel
theorem dX0_renew_2 : decode cX0_renew 2 = .ok (.putfield 9, 3) := by decide +kernel
theorem dX0_renew_5 : decode cX0_renew 5 = .ok (.aload_n 0, 1) := by decide +kernel
theorem dX0_renew_6 : decode cX0_renew 6 = .ok (.iload_n 1, 1) := by decide +kernel
theorem dX0_renew_7 : decode cX0_renew 7 = .ok (.ifCond .ne 7, 3) := by decide +kernel
theorem dX0_renew_10 : decode cX0_renew 10 = .ok (.iconst 0, 1) := by decide +kernel
theorem dX0_renew_11 : decode cX0_renew 11 = .ok (.goto 4, 3) := by decide +kernel
theorem dX0_renew_14 : decode cX0_renew 14 = .ok (.iload_n 2, 1) := by decide +kernel
theorem dX0_renew_15 : decode cX0_renew 15 = .ok (.putfield 15, 3) := by decide +kernel
theorem dX0_renew_18 : decode cX0_renew 18 = .ok (.aload_n 0, 1) := by decide +kernel
theorem dX0_renew_19 : decode cX0_renew 19 = .ok (.getfield 18, 3) := by decide +kernel
theorem dX0_renew_22 : decode cX0_renew 22 = .ok (.iconst 0, 1) := by decide +kernel
theorem dX0_renew_23 : decode cX0_renew 23 = .ok (.invokestatic 22, 3) := by decide +kernel
theorem dX0_renew_26 : decode cX0_renew 26 = .ok (.return_, 1) := by decide +kernel
theorem dX0_put_0 : decode cX0_put 0 = .ok (.aload_n 0, 1) := by decide +kernel
theorem dX0_put_1 : decode cX0_put 1 = .ok (.getfield 9, 3) := by decide +kernel
theorem dX0_put_4 : decode cX0_put 4 = .ok (.bipush 8, 2) := by decide +kernel
theorem dX0_put_6 : decode cX0_put 6 = .ok (.if_icmp .ne 14, 3) := by decide +kernel
theorem dX0_put_9 : decode cX0_put 9 = .ok (.aload_n 0, 1) := by decide +kernel
theorem dX0_put_10 : decode cX0_put 10 = .ok (.getfield 18, 3) := by decide +kernel
theorem dX0_put_13 : decode cX0_put 13 = .ok (.iload_n 1, 1) := by decide +kernel
theorem dX0_put_14 : decode cX0_put 14 = .ok (.iload_n 2, 1) := by decide +kernel
theorem dX0_put_15 : decode cX0_put 15 = .ok (.i2b, 1) := by decide +kernel
theorem dX0_put_16 : decode cX0_put 16 = .ok (.iastore, 1) := by decide +kernel
theorem dX0_put_17 : decode cX0_put 17 = .ok (.goto 30, 3) := by decide +kernel
theorem dX0_put_20 : decode cX0_put 20 = .ok (.aload_n 0, 1) := by decide +kernel
theorem dX0_put_21 : decode cX0_put 21 = .ok (.getfield 9, 3) := by decide +kernel
theorem dX0_put_24 : decode cX0_put 24 = .ok (.bipush 16, 2) := by decide +kernel
theorem dX0_put_26 : decode cX0_put 26 = .ok (.if_icmp .ne 14, 3) := by decide +kernel
theorem dX0_put_29 : decode cX0_put 29 = .ok (.aload_n 0, 1) := by decide +kernel
theorem dX0_put_30 : decode cX0_put 30 = .ok (.getfield 18, 3) := by decide +kernel
theorem dX0_put_33 : decode cX0_put 33 = .ok (.iload_n 1, 1) := by decide +kernel
theorem dX0_put_34 : decode cX0_put 34 = .ok (.iload_n 2, 1) := by decide +kernel
theorem dX0_put_35 : decode cX0_put 35 = .ok (.i2s, 1) := by decide +kernel
theorem dX0_put_36 : decode cX0_put 36 = .ok (.iastore, 1) := by decide +kernel
theorem dX0_put_37 : decode cX0_put 37 = .ok (.goto 10, 3) := by decide +kernel
theorem dX0_put_40 : decode cX0_put 40 = .ok (.aload_n 0, 1) := by decide +kernel
theorem dX0_put_41 : decode cX0_put 41 = .ok (.getfield 18, 3) := by decide +kernel
theorem dX0_put_44 : decode cX0_put 44 = .ok (.iload_n 1, 1) := by decide +kernel
theorem dX0_put_45 : decode cX0_put 45 = .ok (.iload_n 2, 1) := by decide +kernel
theorem dX0_put_46 : decode cX0_put 46 = .ok (.iastore, 1) := by decide +kernel
theorem dX0_put_47 : decode cX0_put 47 = .ok (.return_, 1) := by decide +kernel
theorem dX0_hasRange_0 : decode cX0_hasRange 0 = .ok (.iload_n 1, 1) := by decide +kernel
theorem dX0_hasRange_1 : decode cX0_hasRange 1 = .ok (.ifCond .lt 21, 3) := by decide +kernel
theorem dX0_hasRange_4 : decode cX0_hasRange 4 = .ok (.iload_n 2, 1) := by decide +kernel
theorem dX0_hasRange_5 : decode cX0_hasRange 5 = .ok (.ifCond .lt 17, 3) := by decide +kernel
theorem dX0_hasRange_8 : decode cX0_hasRange 8 = .ok (.iload_n 1, 1) := by decide +kernel
theorem dX0_hasRange_9 : decode cX0_hasRange 9 = .ok (.aload_n 0, 1) := by decide +kernel
theorem dX0_hasRange_10 : decode cX0_hasRange 10 = .ok (.getfield 15, 3) := by decide +kernel
theorem dX0_hasRange_13 : decode cX0_hasRange 13 = .ok (.iload_n 2, 1) := by decide +kernel
theorem dX0_hasRange_14 : decode cX0_hasRange 14 = .ok (.isub, 1) := by decide +kernel
theorem dX0_hasRange_15 : decode cX0_hasRange 15 = .ok (.if_icmp .gt 7, 3) := by decide +kernel
theorem dX0_hasRange_18 : decode cX0_hasRange 18 = .ok (.iconst 1, 1) := by decide +kernel
theorem dX0_hasRange_19 : decode cX0_hasRange 19 = .ok (.goto 4, 3) := by decide +kernel
theorem dX0_hasRange_22 : decode cX0_hasRange 22 = .ok (.iconst 0, 1) := by decide +kernel
theorem dX0_hasRange_23 : decode cX0_hasRange 23 = .ok (.ireturn, 1) := by decide +kernel
theorem dX1_init_0 : decode cX1_init 0 = .ok (.aload_n 0, 1) := by decide +kernel
theorem dX1_init_1 : decode cX1_init 1 = .ok (.invokespecial 3, 3) := by decide +kernel
theorem dX1_init_4 : decode cX1_init 4 = .ok (.aload_n 0, 1) := by decide +kernel
theorem dX1_init_5 : decode cX1_init 5 = .ok (.iconst 0, 1) := by decide +kernel
theorem dX1_init_6 : decode cX1_init 6 = .ok (.putfield 9, 3) := by decide +kernel
theorem dX1_init_9 : decode cX1_init 9 = .ok (.aload_n 0, 1) := by decide +kernel
theorem dX1_init_10 : decode cX1_init 10 = .ok (.bipush 10, 2) := by decide +kernel
theorem dX1_init_12 : decode cX1_init 12 = .ok (.newarray .int, 2) := by decide +kernel
theorem dX1_init_14 : decode cX1_init 14 = .ok (.putfield 15, 3) := by decide +kernel
theorem dX1_init_17 : decode cX1_init 17 = .ok (.aload_n 0, 1) := by decide +kernel
theorem dX1_init_18 : decode cX1_init 18 = .ok (.bipush 10, 2) := by decide +kernel
theorem dX1_init_20 : decode cX1_init 20 = .ok (.newarray .int, 2) := by decide +kernel
theorem dX1_init_22 : decode cX1_init 22 = .ok (.putfield 19, 3) := by decide +kernel
theorem dX1_init_25 : decode cX1_init 25 = .ok (.aload_n 0, 1) := by decide +kernel
theorem dX1_init_26 : decode cX1_init 26 = .ok (.bipush 10, 2) := by decide +kernel
theorem dX1_init_28 : decode cX1_init 28 = .ok (.newarray .int, 2) := by decide +kernel
theorem dX1_init_30 : decode cX1_init 30 = .ok (.putfield 22, 3) := by decide +kernel
theorem dX1_init_33 : decode cX1_init 33 = .ok (.aload_n 0, 1) := by decide +kernel
theorem dX1_init_34 : decode cX1_init 34 = .ok (.bipush 10, 2) := by decide +kernel
theorem dX1_init_36 : decode cX1_init 36 = .ok (.newarray .int, 2) := by decide +kernel
theorem dX1_init_38 : decode cX1_init 38 = .ok (.putfield 25, 3) := by decide +kernel
theorem dX1_init_41 : decode cX1_init 41 = .ok (.aload_n 0, 1) := by decide +kernel
theorem dX1_init_42 : decode cX1_init 42 = .ok (.iconst 4, 1) := by decide +kernel
theorem dX1_init_43 : decode cX1_init 43 = .ok (.newarray .int, 2) := by decide +kernel
theorem dX1_init_45 : decode cX1_init 45 = .ok (.putfield 28, 3) := by decide +kernel
theorem dX1_init_48 : decode cX1_init 48 = .ok (.aload_n 0, 1) := by decide +kernel
theorem dX1_init_49 : decode cX1_init 49 = .ok (.iconst 4, 1) := by decide +kernel
theorem dX1_init_50 : decode cX1_init 50 = .ok (.newarray .int, 2) := by decide +kernel
theorem dX1_init_52 : decode cX1_init 52 = .ok (.putfield 31, 3) := by decide +kernel
theorem dX1_init_55 : decode cX1_init 55 = .ok (.aload_n 0, 1) := by decide +kernel
theorem dX1_init_56 : decode cX1_init 56 = .ok (.iconst 4, 1) := by decide +kernel
theorem dX1_init_57 : decode cX1_init 57 = .ok (.newarray .int, 2) := by decide +kernel
theorem dX1_init_59 : decode cX1_init 59 = .ok (.putfield 34, 3) := by decide +kernel
theorem dX1_init_62 : decode cX1_init 62 = .ok (.aload_n 0, 1) := by decide +kernel
theorem dX1_init_63 : decode cX1_init 63 = .ok (.iconst 0, 1) := by decide +kernel
theorem dX1_init_64 : decode cX1_init 64 = .ok (.putfield 37, 3) := by decide +kernel
theorem dX1_init_67 : decode cX1_init 67 = .ok (.aload_n 0, 1) := by decide +kernel
theorem dX1_init_68 : decode cX1_init 68 = .ok (.iconst 0, 1) := by decide +kernel
theorem dX1_init_69 : decode cX1_init 69 = .ok (.putfield 40, 3) := by decide +kernel
theorem dX1_init_72 : decode cX1_init 72 = .ok (.aload_n 0, 1) := by decide +kernel
theorem dX1_init_73 : decode cX1_init 73 = .ok (.bipush 6, 2) := by decide +kernel
theorem dX1_init_75 : decode cX1_init 75 = .ok (.newarray .int, 2) := by decide +kernel
theorem dX1_init_77 : decode cX1_init 77 = .ok (.putfield 43, 3) := by decide +kernel
theorem dX1_init_80 : decode cX1_init 80 = .ok (.aload_n 0, 1) := by decide +kernel
theorem dX1_init_81 : decode cX1_init 81 = .ok (.bipush 10, 2) := by decide +kernel
theorem dX1_init_83 : decode cX1_init 83 = .ok (.newarray .int, 2) := by decide +kernel
theorem dX1_init_85 : decode cX1_init 85 = .ok (.putfield 46, 3) := by decide +kernel
theorem dX1_init_88 : decode cX1_init 88 = .ok (.aload_n 0, 1) := by decide +kernel
theorem dX1_init_89 : decode cX1_init 89 = .ok (.iconst 1, 1) := by decide +kernel
theorem dX1_init_90 : decode cX1_init 90 = .ok (.putfield 49, 3) := by decide +kernel
theorem dX1_init_93 : decode cX1_init 93 = .ok (.aload_n 0, 1) := by decide +kernel
theorem dX1_init_94 : decode cX1_init 94 = .ok (.getfield 31, 3) := by decide +kernel
theorem dX1_init_97 : decode cX1_init 97 = .ok (.bipush 60, 2) := by decide +kernel
theorem dX1_init_99 : decode cX1_init 99 = .ok (.invokestatic 52, 3) := by decide +kernel
theorem dX1_init_102 : decode cX1_init 102 = .ok (.aload_n 0, 1) := by decide +kernel
theorem dX1_init_103 : decode cX1_init 103 = .ok (.getfield 46, 3) := by decide +kernel
theorem dX1_init_106 : decode cX1_init 106 = .ok (.iconst (-1), 1) := by decide +kernel
theorem dX1_init_107 : decode cX1_init 107 = .ok (.invokestatic 52, 3) := by decide +kernel
theorem dX1_init_110 : decode cX1_init 110 = .ok (.aload_n 0, 1) := by decide +kernel
theorem dX1_init_111 : decode cX1_init 111 = .ok (.getfield 34, 3) := by decide +kernel
theorem dX1_init_114 : decode cX1_init 114 = .ok (.iconst 0, 1) := by decide +kernel
theorem dX1_init_115 : decode cX1_init 115 = .ok (.iconst 1, 1) := by decide +kernel
theorem dX1_init_116 : decode cX1_init 116 = .ok (.iastore, 1) := by decide +kernel
theorem dX1_init_117 : decode cX1_init 117 = .ok (.aload_n 0, 1) := by decide +kernel
theorem dX1_init_118 : decode cX1_init 118 = .ok (.getfield 34, 3) := by decide +kernel
theorem dX1_init_121 : decode cX1_init 121 = .ok (.iconst 2, 1) := by decide +kernel
theorem dX1_init_122 : decode cX1_init 122 = .ok (.iconst 5, 1) := by decide +kernel
theorem dX1_init_123 : decode cX1_init 123 = .ok (.iastore, 1) := by decide +kernel
theorem dX1_init_124 : decode cX1_init 124 = .ok (.aload_n 0, 1) := by decide +kernel
theorem dX1_init_125 : decode cX1_init 125 = .ok (.getfield 34, 3) := by decide +kernel
theorem dX1_init_128 : decode cX1_init 128 = .ok (.iconst 3, 1) := by decide +kernel
theorem dX1_init_129 : decode cX1_init 129 = .ok (.bipush 20, 2) := by decide +kernel
theorem dX1_init_131 : decode cX1_init 131 = .ok (.iastore, 1) := by decide +kernel
theorem dX1_init_132 : decode cX1_init 132 = .ok (.return_, 1) := by decide +kernel
theorem dX1_become_0 : decode cX1_become 0 = .ok (.aload_n 0, 1) := by decide +kernel
theorem dX1_become_1 : decode cX1_become 1 = .ok (.aload_n 1, 1) := by decide +kernel
theorem dX1_become_2 : decode cX1_become 2 = .ok (.getfield 9, 3) := by decide +kernel
theorem dX1_become_5 : decode cX1_become 5 = .ok (.putfield 9, 3) := by decide +kernel
theorem dX1_become_8 : decode cX1_become 8 = .ok (.aload_n 1, 1) := by decide +kernel
theorem dX1_become_9 : decode cX1_become 9 = .ok (.getfield 15, 3) := by decide +kernel
theorem dX1_become_12 : decode cX1_become 12 = .ok (.iconst 0, 1) := by decide +kernel
theorem dX1_become_13 : decode cX1_become 13 = .ok (.aload_n 0, 1) := by decide +kernel
theorem dX1_become_14 : decode cX1_become 14 = .ok (.getfield 15, 3) := by decide +kernel
theorem dX1_become_17 : decode cX1_become 17 = .ok (.iconst 0, 1) := by decide +kernel
theorem dX1_become_18 : decode cX1_become 18 = .ok (.bipush 10, 2) := by decide +kernel
theorem dX1_become_20 : decode cX1_become 20 = .ok (.invokestatic 58, 3) := by decide +kernel
theorem dX1_become_23 : decode cX1_become 23 = .ok (.aload_n 1, 1) := by decide +kernel
theorem dX1_become_24 : decode cX1_become 24 = .ok (.getfield 19, 3) := by decide +kernel
theorem dX1_become_27 : decode cX1_become 27 = .ok (.iconst 0, 1) := by decide +kernel
theorem dX1_become_28 : decode cX1_become 28 = .ok (.aload_n 0, 1) := by decide +kernel
theorem dX1_become_29 : decode cX1_become 29 = .ok (.getfield 19, 3) := by decide +kernel
theorem dX1_become_32 : decode cX1_become 32 = .ok (.iconst 0, 1) := by decide +kernel
theorem dX1_become_33 : decode cX1_become 33 = .ok (.bipush 10, 2) := by decide +kernel
theorem dX1_become_35 : decode cX1_become 35 = .ok (.invokestatic 58, 3) := by decide +kernel
theorem dX1_become_38 : decode cX1_become 38 = .ok (.aload_n 1, 1) := by decide +kernel
theorem dX1_become_39 : decode cX1_become 39 = .ok (.getfield 22, 3) := by decide +kernel
theorem dX1_become_42 : decode cX1_become 42 = .ok (.iconst 0, 1) := by decide +kernel
theorem dX1_become_43 : decode cX1_become 43 = .ok (.aload_n 0, 1) := by decide +kernel
theorem dX1_become_44 : decode cX1_become 44 = .ok (.getfield 22, 3) := by decide +kernel
theorem dX1_become_47 : decode cX1_become 47 = .ok (.iconst 0, 1) := by decide +kernel
theorem dX1_become_48 : decode cX1_become 48 = .ok (.bipush 10, 2) := by decide +kernel
theorem dX1_become_50 : decode cX1_become 50 = .ok (.invokestatic 58, 3) := by decide +kernel
theorem dX1_become_53 : decode cX1_become 53 = .ok (.aload_n 1, 1) := by decide +kernel
theorem dX1_become_54 : decode cX1_become 54 = .ok (.getfield 25, 3) := by decide +kernel
theorem dX1_become_57 : decode cX1_become 57 = .ok (.iconst 0, 1) := by decide +kernel
theorem dX1_become_58 : decode cX1_become 58 = .ok (.aload_n 0, 1) := by decide +kernel
theorem dX1_become_59 : decode cX1_become 59 = .ok (.getfield 25, 3) := by decide +kernel
theorem dX1_become_62 : decode cX1_become 62 = .ok (.iconst 0, 1) := by decide +kernel
theorem dX1_become_63 : decode cX1_become 63 = .ok (.bipush 10, 2) := by decide +kernel
theorem dX1_become_65 : decode cX1_become 65 = .ok (.invokestatic 58, 3) := by decide +kernel
theorem dX1_become_68 : decode cX1_become 68 = .ok (.aload_n 1, 1) := by decide +kernel
theorem dX1_become_69 : decode cX1_become 69 = .ok (.getfield 28, 3) := by decide +kernel
theorem dX1_become_72 : decode cX1_become 72 = .ok (.iconst 0, 1) := by decide +kernel
theorem dX1_become_73 : decode cX1_become 73 = .ok (.aload_n 0, 1) := by decide +kernel
theorem dX1_become_74 : decode cX1_become 74 = .ok (.getfield 28, 3) := by decide +kernel
theorem dX1_become_77 : decode cX1_become 77 = .ok (.iconst 0, 1) := by decide +kernel
theorem dX1_become_78 : decode cX1_become 78 = .ok (.iconst 4, 1) := by decide +kernel
theorem dX1_become_79 : decode cX1_become 79 = .ok (.invokestatic 58, 3) := by decide +kernel
theorem dX1_become_82 : decode cX1_become 82 = .ok (.aload_n 1, 1) := by decide +kernel
theorem dX1_become_83 : decode cX1_become 83 = .ok (.getfield 31, 3) := by decide +kernel
theorem dX1_become_86 : decode cX1_become 86 = .ok (.iconst 0, 1) := by decide +kernel
theorem dX1_become_87 : decode cX1_become 87 = .ok (.aload_n 0, 1) := by decide +kernel
theorem dX1_become_88 : decode cX1_become 88 = .ok (.getfield 31, 3) := by decide +kernel
theorem dX1_become_91 : decode cX1_become 91 = .ok (.iconst 0, 1) := by decide +kernel
theorem dX1_become_92 : decode cX1_become 92 = .ok (.iconst 4, 1) := by decide +kernel
theorem dX1_become_93 : decode cX1_become 93 = .ok (.invokestatic 58, 3) := by decide +kernel
theorem dX1_become_96 : decode cX1_become 96 = .ok (.aload_n 1, 1) := by decide +kernel
theorem dX1_become_97 : decode cX1_become 97 = .ok (.getfield 34, 3) := by decide +kernel
theorem dX1_become_100 : decode cX1_become 100 = .ok (.iconst 0, 1) := by decide +kernel
theorem dX1_become_101 : decode cX1_become 101 = .ok (.aload_n 0, 1) := by decide +kernel
theorem dX1_become_102 : decode cX1_become 102 = .ok (.getfield 34, 3) := by decide +kernel
theorem dX1_become_105 : decode cX1_become 105 = .ok (.iconst 0, 1) := by decide +kernel
theorem dX1_become_106 : decode cX1_become 106 = .ok (.iconst 4, 1) := by decide +kernel
theorem dX1_become_107 : decode cX1_become 107 = .ok (.invokestatic 58, 3) := by decide +kernel
theorem dX1_become_110 : decode cX1_become 110 = .ok (.aload_n 0, 1) := by decide +kernel
theorem dX1_become_111 : decode cX1_become 111 = .ok (.aload_n 1, 1) := by decide +kernel
theorem dX1_become_112 : decode cX1_become 112 = .ok (.getfield 37, 3) := by decide +kernel
theorem dX1_become_115 : decode cX1_become 115 = .ok (.putfield 37, 3) := by decide +kernel
theorem dX1_become_118 : decode cX1_become 118 = .ok (.aload_n 0, 1) := by decide +kernel
theorem dX1_become_119 : decode cX1_become 119 = .ok (.aload_n 1, 1) := by decide +kernel
theorem dX1_become_120 : decode cX1_become 120 = .ok (.getfield 40, 3) := by decide +kernel
theorem dX1_become_123 : decode cX1_become 123 = .ok (.putfield 40, 3) := by decide +kernel
theorem dX1_become_126 : decode cX1_become 126 = .ok (.aload_n 1, 1) := by decide +kernel
theorem dX1_become_127 : decode cX1_become 127 = .ok (.getfield 43, 3) := by decide +kernel
theorem dX1_become_130 : decode cX1_become 130 = .ok (.iconst 0, 1) := by decide +kernel
theorem dX1_become_131 : decode cX1_become 131 = .ok (.aload_n 0, 1) := by decide +kernel
theorem dX1_become_132 : decode cX1_become 132 = .ok (.getfield 43, 3) := by decide +kernel
theorem dX1_become_135 : decode cX1_become 135 = .ok (.iconst 0, 1) := by decide +kernel
theorem dX1_become_136 : decode cX1_become 136 = .ok (.bipush 6, 2) := by decide +kernel
theorem dX1_become_138 : decode cX1_become 138 = .ok (.invokestatic 58, 3) := by decide +kernel
theorem dX1_become_141 : decode cX1_become 141 = .ok (.aload_n 1, 1) := by decide +kernel
theorem dX1_become_142 : decode cX1_become 142 = .ok (.getfield 46, 3) := by decide +kernel
theorem dX1_become_145 : decode cX1_become 145 = .ok (.iconst 0, 1) := by decide +kernel
theorem dX1_become_146 : decode cX1_become 146 = .ok (.aload_n 0, 1) := by decide +kernel
theorem dX1_become_147 : decode cX1_become 147 = .ok (.getfield 46, 3) := by decide +kernel
theorem dX1_become_150 : decode cX1_become 150 = .ok (.iconst 0, 1) := by decide +kernel
theorem dX1_become_151 : decode cX1_become 151 = .ok (.bipush 10, 2) := by decide +kernel
theorem dX1_become_153 : decode cX1_become 153 = .ok (.invokestatic 58, 3) := by decide +kernel
theorem dX1_become_156 : decode cX1_become 156 = .ok (.aload_n 0, 1) := by decide +kernel
theorem dX1_become_157 : decode cX1_become 157 = .ok (.aload_n 1, 1) := by decide +kernel
theorem dX1_become_158 : decode cX1_become 158 = .ok (.getfield 49, 3) := by decide +kernel
theorem dX1_become_161 : decode cX1_become 161 = .ok (.putfield 49, 3) := by decide +kernel
theorem dX1_become_164 : decode cX1_become 164 = .ok (.return_, 1) := by decide +kernel
theorem dX1_starRow_0 : decode cX1_starRow 0 = .ok (.iload_n 1, 1) := by decide +kernel
theorem dX1_starRow_1 : decode cX1_starRow 1 = .ok (.tableswitch 51 0 3 #[31, 36, 41, 46], 31) := by decide +kernel
theorem dX1_starRow_32 : decode cX1_starRow 32 = .ok (.aload_n 0, 1) := by decide +kernel
theorem dX1_starRow_33 : decode cX1_starRow 33 = .ok (.getfield 15, 3) := by decide +kernel
theorem dX1_starRow_36 : decode cX1_starRow 36 = .ok (.areturn, 1) := by decide +kernel
theorem dX1_starRow_37 : decode cX1_starRow 37 = .ok (.aload_n 0, 1) := by decide +kernel
theorem dX1_starRow_38 : decode cX1_starRow 38 = .ok (.getfield 19, 3) := by decide +kernel
theorem dX1_starRow_41 : decode cX1_starRow 41 = .ok (.areturn, 1) := by decide +kernel
theorem dX1_starRow_42 : decode cX1_starRow 42 = .ok (.aload_n 0, 1) := by decide +kernel
theorem dX1_starRow_43 : decode cX1_starRow 43 = .ok (.getfield 22, 3) := by decide +kernel
theorem dX1_starRow_46 : decode cX1_starRow 46 = .ok (.areturn, 1) := by decide +kernel
theorem dX1_starRow_47 : decode cX1_starRow 47 = .ok (.aload_n 0, 1) := by decide +kernel
theorem dX1_starRow_48 : decode cX1_starRow 48 = .ok (.getfield 25, 3) := by decide +kernel
theorem dX1_starRow_51 : decode cX1_starRow 51 = .ok (.areturn, 1) := by decide +kernel
theorem dX1_starRow_52 : decode cX1_starRow 52 = .ok (.aconst_null, 1) := by decide +kernel
theorem dX1_starRow_53 : decode cX1_starRow 53 = .ok (.areturn, 1) := by decide +kernel
theorem dX1_mostOfStar_0 : decode cX1_mostOfStar 0 = .ok (.iload_n 0, 1) := by decide +kernel
theorem dX1_mostOfStar_1 : decode cX1_mostOfStar 1 = .ok (.tableswitch 36 0 2 #[27, 30, 33], 27) := by decide +kernel
theorem dX1_mostOfStar_28 : decode cX1_mostOfStar 28 = .ok (.bipush 6, 2) := by decide +kernel
theorem dX1_mostOfStar_30 : decode cX1_mostOfStar 30 = .ok (.ireturn, 1) := by decide +kernel
theorem dX1_mostOfStar_31 : decode cX1_mostOfStar 31 = .ok (.bipush 99, 2) := by decide +kernel
theorem dX1_mostOfStar_33 : decode cX1_mostOfStar 33 = .ok (.ireturn, 1) := by decide +kernel
theorem dX1_mostOfStar_34 : decode cX1_mostOfStar 34 = .ok (.bipush 99, 2) := by decide +kernel
theorem dX1_mostOfStar_36 : decode cX1_mostOfStar 36 = .ok (.ireturn, 1) := by decide +kernel
theorem dX1_mostOfStar_37 : decode cX1_mostOfStar 37 = .ok (.bipush 99, 2) := by decide +kernel
theorem dX1_mostOfStar_39 : decode cX1_mostOfStar 39 = .ok (.ireturn, 1) := by decide +kernel
theorem dX1_crewRow_0 : decode cX1_crewRow 0 = .ok (.iload_n 1, 1) := by decide +kernel
theorem dX1_crewRow_1 : decode cX1_crewRow 1 = .ok (.lookupswitch 37 #[(0, 27), (1, 32)], 27) := by decide +kernel
theorem dX1_crewRow_28 : decode cX1_crewRow 28 = .ok (.aload_n 0, 1) := by decide +kernel
theorem dX1_crewRow_29 : decode cX1_crewRow 29 = .ok (.getfield 28, 3) := by decide +kernel
theorem dX1_crewRow_32 : decode cX1_crewRow 32 = .ok (.areturn, 1) := by decide +kernel
theorem dX1_crewRow_33 : decode cX1_crewRow 33 = .ok (.aload_n 0, 1) := by decide +kernel
theorem dX1_crewRow_34 : decode cX1_crewRow 34 = .ok (.getfield 31, 3) := by decide +kernel
theorem dX1_crewRow_37 : decode cX1_crewRow 37 = .ok (.areturn, 1) := by decide +kernel
theorem dX1_crewRow_38 : decode cX1_crewRow 38 = .ok (.aconst_null, 1) := by decide +kernel
theorem dX1_crewRow_39 : decode cX1_crewRow 39 = .ok (.areturn, 1) := by decide +kernel
theorem dX1_mostOfCrew_0 : decode cX1_mostOfCrew 0 = .ok (.iload_n 0, 1) := by decide +kernel
theorem dX1_mostOfCrew_1 : decode cX1_mostOfCrew 1 = .ok (.ifCond .ne 8, 3) := by decide +kernel
theorem dX1_mostOfCrew_4 : decode cX1_mostOfCrew 4 = .ok (.bipush 99, 2) := by decide +kernel
theorem dX1_mostOfCrew_6 : decode cX1_mostOfCrew 6 = .ok (.goto 6, 3) := by decide +kernel
theorem dX1_mostOfCrew_9 : decode cX1_mostOfCrew 9 = .ok (.sipush 999, 3) := by decide +kernel
theorem dX1_mostOfCrew_12 : decode cX1_mostOfCrew 12 = .ok (.ireturn, 1) := by decide +kernel
theorem dX1_addStar_0 : decode cX1_addStar 0 = .ok (.aload_n 0, 1) := by decide +kernel
theorem dX1_addStar_1 : decode cX1_addStar 1 = .ok (.getfield 15, 3) := by decide +kernel
theorem dX1_addStar_4 : decode cX1_addStar 4 = .ok (.aload_n 0, 1) := by decide +kernel
theorem dX1_addStar_5 : decode cX1_addStar 5 = .ok (.getfield 9, 3) := by decide +kernel
theorem dX1_addStar_8 : decode cX1_addStar 8 = .ok (.iload_n 1, 1) := by decide +kernel
theorem dX1_addStar_9 : decode cX1_addStar 9 = .ok (.iastore, 1) := by decide +kernel
theorem dX1_addStar_10 : decode cX1_addStar 10 = .ok (.aload_n 0, 1) := by decide +kernel
theorem dX1_addStar_11 : decode cX1_addStar 11 = .ok (.getfield 19, 3) := by decide +kernel
theorem dX1_addStar_14 : decode cX1_addStar 14 = .ok (.aload_n 0, 1) := by decide +kernel
theorem dX1_addStar_15 : decode cX1_addStar 15 = .ok (.getfield 9, 3) := by decide +kernel
theorem dX1_addStar_18 : decode cX1_addStar 18 = .ok (.iload_n 2, 1) := by decide +kernel
theorem dX1_addStar_19 : decode cX1_addStar 19 = .ok (.iastore, 1) := by decide +kernel
theorem dX1_addStar_20 : decode cX1_addStar 20 = .ok (.aload_n 0, 1) := by decide +kernel
theorem dX1_addStar_21 : decode cX1_addStar 21 = .ok (.getfield 22, 3) := by decide +kernel
theorem dX1_addStar_24 : decode cX1_addStar 24 = .ok (.aload_n 0, 1) := by decide +kernel
theorem dX1_addStar_25 : decode cX1_addStar 25 = .ok (.getfield 9, 3) := by decide +kernel
theorem dX1_addStar_28 : decode cX1_addStar 28 = .ok (.iload_n 3, 1) := by decide +kernel
theorem dX1_addStar_29 : decode cX1_addStar 29 = .ok (.iastore, 1) := by decide +kernel
theorem dX1_addStar_30 : decode cX1_addStar 30 = .ok (.aload_n 0, 1) := by decide +kernel
theorem dX1_addStar_31 : decode cX1_addStar 31 = .ok (.getfield 25, 3) := by decide +kernel
theorem dX1_addStar_34 : decode cX1_addStar 34 = .ok (.aload_n 0, 1) := by decide +kernel
theorem dX1_addStar_35 : decode cX1_addStar 35 = .ok (.getfield 9, 3) := by decide +kernel
theorem dX1_addStar_38 : decode cX1_addStar 38 = .ok (.iload 4, 2) := by decide +kernel
theorem dX1_addStar_40 : decode cX1_addStar 40 = .ok (.iastore, 1) := by decide +kernel
theorem dX1_addStar_41 : decode cX1_addStar 41 = .ok (.aload_n 0, 1) := by decide +kernel
theorem dX1_addStar_42 : decode cX1_addStar 42 = .ok (.dup, 1) := by decide +kernel
theorem dX1_addStar_43 : decode cX1_addStar 43 = .ok (.getfield 9, 3) := by decide +kernel
theorem dX1_addStar_46 : decode cX1_addStar 46 = .ok (.iconst 1, 1) := by decide +kernel
theorem dX1_addStar_47 : decode cX1_addStar 47 = .ok (.iadd, 1) := by decide +kernel
theorem dX1_addStar_48 : decode cX1_addStar 48 = .ok (.putfield 9, 3) := by decide +kernel
theorem dX1_addStar_51 : decode cX1_addStar 51 = .ok (.aload_n 0, 1) := by decide +kernel
theorem dX1_addStar_52 : decode cX1_addStar 52 = .ok (.getfield 9, 3) := by decide +kernel
theorem dX1_addStar_55 : decode cX1_addStar 55 = .ok (.iconst 1, 1) := by decide +kernel
theorem dX1_addStar_56 : decode cX1_addStar 56 = .ok (.isub, 1) := by decide +kernel
theorem dX1_addStar_57 : decode cX1_addStar 57 = .ok (.ireturn, 1) := by decide +kernel
theorem dX1_addSign_0 : decode cX1_addSign 0 = .ok (.aload_n 0, 1) := by decide +kernel
theorem dX1_addSign_1 : decode cX1_addSign 1 = .ok (.getfield 43, 3) := by decide +kernel
theorem dX1_addSign_4 : decode cX1_addSign 4 = .ok (.aload_n 0, 1) := by decide +kernel
theorem dX1_addSign_5 : decode cX1_addSign 5 = .ok (.getfield 40, 3) := by decide +kernel
theorem dX1_addSign_8 : decode cX1_addSign 8 = .ok (.iload_n 1, 1) := by decide +kernel
theorem dX1_addSign_9 : decode cX1_addSign 9 = .ok (.iastore, 1) := by decide +kernel
theorem dX1_addSign_10 : decode cX1_addSign 10 = .ok (.aload_n 0, 1) := by decide +kernel
theorem dX1_addSign_11 : decode cX1_addSign 11 = .ok (.dup, 1) := by decide +kernel
theorem dX1_addSign_12 : decode cX1_addSign 12 = .ok (.getfield 40, 3) := by decide +kernel
theorem dX1_addSign_15 : decode cX1_addSign 15 = .ok (.iconst 1, 1) := by decide +kernel
theorem dX1_addSign_16 : decode cX1_addSign 16 = .ok (.iadd, 1) := by decide +kernel
theorem dX1_addSign_17 : decode cX1_addSign 17 = .ok (.putfield 40, 3) := by decide +kernel
theorem dX1_addSign_20 : decode cX1_addSign 20 = .ok (.aload_n 0, 1) := by decide +kernel
theorem dX1_addSign_21 : decode cX1_addSign 21 = .ok (.getfield 40, 3) := by decide +kernel
theorem dX1_addSign_24 : decode cX1_addSign 24 = .ok (.iconst 1, 1) := by decide +kernel
theorem dX1_addSign_25 : decode cX1_addSign 25 = .ok (.isub, 1) := by decide +kernel
theorem dX1_addSign_26 : decode cX1_addSign 26 = .ok (.ireturn, 1) := by decide +kernel
theorem dX1_wearOf_0 : decode cX1_wearOf 0 = .ok (.iload_n 3, 1) := by decide +kernel
theorem dX1_wearOf_1 : decode cX1_wearOf 1 = .ok (.iconst 1, 1) := by decide +kernel
theorem dX1_wearOf_2 : decode cX1_wearOf 2 = .ok (.iadd, 1) := by decide +kernel
theorem dX1_wearOf_3 : decode cX1_wearOf 3 = .ok (.istore 4, 2) := by decide +kernel
theorem dX1_wearOf_5 : decode cX1_wearOf 5 = .ok (.iload 4, 2) := by decide +kernel
theorem dX1_wearOf_7 : decode cX1_wearOf 7 = .ok (.iconst 2, 1) := by decide +kernel
theorem dX1_wearOf_8 : decode cX1_wearOf 8 = .ok (.idiv, 1) := by decide +kernel
theorem dX1_wearOf_9 : decode cX1_wearOf 9 = .ok (.aload_n 0, 1) := by decide +kernel
theorem dX1_wearOf_10 : decode cX1_wearOf 10 = .ok (.getfield 34, 3) := by decide +kernel
theorem dX1_wearOf_13 : decode cX1_wearOf 13 = .ok (.iconst 1, 1) := by decide +kernel
theorem dX1_wearOf_14 : decode cX1_wearOf 14 = .ok (.iaload, 1) := by decide +kernel
theorem dX1_wearOf_15 : decode cX1_wearOf 15 = .ok (.iconst 5, 1) := by decide +kernel
theorem dX1_wearOf_16 : decode cX1_wearOf 16 = .ok (.if_icmp .lt 7, 3) := by decide +kernel
theorem dX1_wearOf_19 : decode cX1_wearOf 19 = .ok (.iconst 1, 1) := by decide +kernel
theorem dX1_wearOf_20 : decode cX1_wearOf 20 = .ok (.goto 4, 3) := by decide +kernel
theorem dX1_wearOf_23 : decode cX1_wearOf 23 = .ok (.iconst 0, 1) := by decide +kernel
theorem dX1_wearOf_24 : decode cX1_wearOf 24 = .ok (.iadd, 1) := by decide +kernel
theorem dX1_wearOf_25 : decode cX1_wearOf 25 = .ok (.istore 5, 2) := by decide +kernel
theorem dX1_wearOf_27 : decode cX1_wearOf 27 = .ok (.iload_n 1, 1) := by decide +kernel
theorem dX1_wearOf_28 : decode cX1_wearOf 28 = .ok (.tableswitch 81 1 6 #[40, 52, 57, 60, 70, 45], 40) := by decide +kernel
theorem dX1_wearOf_68 : decode cX1_wearOf 68 = .ok (.iload 4, 2) := by decide +kernel
theorem dX1_wearOf_70 : decode cX1_wearOf 70 = .ok (.iconst 2, 1) := by decide +kernel
theorem dX1_wearOf_71 : decode cX1_wearOf 71 = .ok (.iadd, 1) := by decide +kernel
theorem dX1_wearOf_72 : decode cX1_wearOf 72 = .ok (.ireturn, 1) := by decide +kernel
theorem dX1_wearOf_73 : decode cX1_wearOf 73 = .ok (.iconst 2, 1) := by decide +kernel
theorem dX1_wearOf_74 : decode cX1_wearOf 74 = .ok (.iload 4, 2) := by decide +kernel
theorem dX1_wearOf_76 : decode cX1_wearOf 76 = .ok (.iconst 2, 1) := by decide +kernel
theorem dX1_wearOf_77 : decode cX1_wearOf 77 = .ok (.iadd, 1) := by decide +kernel
theorem dX1_wearOf_78 : decode cX1_wearOf 78 = .ok (.imul, 1) := by decide +kernel
theorem dX1_wearOf_79 : decode cX1_wearOf 79 = .ok (.ireturn, 1) := by decide +kernel
theorem dX1_wearOf_80 : decode cX1_wearOf 80 = .ok (.iload 4, 2) := by decide +kernel
theorem dX1_wearOf_82 : decode cX1_wearOf 82 = .ok (.iconst 2, 1) := by decide +kernel
theorem dX1_wearOf_83 : decode cX1_wearOf 83 = .ok (.idiv, 1) := by decide +kernel
theorem dX1_wearOf_84 : decode cX1_wearOf 84 = .ok (.ireturn, 1) := by decide +kernel
theorem dX1_wearOf_85 : decode cX1_wearOf 85 = .ok (.iload 5, 2) := by decide +kernel
theorem dX1_wearOf_87 : decode cX1_wearOf 87 = .ok (.ireturn, 1) := by decide +kernel
theorem dX1_wearOf_88 : decode cX1_wearOf 88 = .ok (.iload 5, 2) := by decide +kernel
theorem dX1_wearOf_90 : decode cX1_wearOf 90 = .ok (.aload_n 0, 1) := by decide +kernel
theorem dX1_wearOf_91 : decode cX1_wearOf 91 = .ok (.getfield 34, 3) := by decide +kernel
theorem dX1_wearOf_94 : decode cX1_wearOf 94 = .ok (.iconst 1, 1) := by decide +kernel
theorem dX1_wearOf_95 : decode cX1_wearOf 95 = .ok (.iaload, 1) := by decide +kernel
theorem dX1_wearOf_96 : decode cX1_wearOf 96 = .ok (.iadd, 1) := by decide +kernel
theorem dX1_wearOf_97 : decode cX1_wearOf 97 = .ok (.ireturn, 1) := by decide +kernel
theorem dX1_wearOf_98 : decode cX1_wearOf 98 = .ok (.iload 4, 2) := by decide +kernel
theorem dX1_wearOf_100 : decode cX1_wearOf 100 = .ok (.bipush 99, 2) := by decide +kernel
theorem dX1_wearOf_102 : decode cX1_wearOf 102 = .ok (.iload_n 2, 1) := by decide +kernel
theorem dX1_wearOf_103 : decode cX1_wearOf 103 = .ok (.isub, 1) := by decide +kernel
theorem dX1_wearOf_104 : decode cX1_wearOf 104 = .ok (.bipush 10, 2) := by decide +kernel
theorem dX1_wearOf_106 : decode cX1_wearOf 106 = .ok (.idiv, 1) := by decide +kernel
theorem dX1_wearOf_107 : decode cX1_wearOf 107 = .ok (.iadd, 1) := by decide +kernel
theorem dX1_wearOf_108 : decode cX1_wearOf 108 = .ok (.ireturn, 1) := by decide +kernel
theorem dX1_wearOf_109 : decode cX1_wearOf 109 = .ok (.iload 4, 2) := by decide +kernel
theorem dX1_wearOf_111 : decode cX1_wearOf 111 = .ok (.ireturn, 1) := by decide +kernel
theorem dX1_dimOf_0 : decode cX1_dimOf 0 = .ok (.bipush 9, 2) := by decide +kernel
theorem dX1_dimOf_2 : decode cX1_dimOf 2 = .ok (.istore_n 2, 1) := by decide +kernel
theorem dX1_dimOf_3 : decode cX1_dimOf 3 = .ok (.iload_n 1, 1) := by decide +kernel
theorem dX1_dimOf_4 : decode cX1_dimOf 4 = .ok (.tableswitch 58 1 6 #[40, 43, 47, 47, 49, 40], 40) := by decide +kernel
theorem dX1_dimOf_44 : decode cX1_dimOf 44 = .ok (.bipush 19, 2) := by decide +kernel
theorem dX1_dimOf_46 : decode cX1_dimOf 46 = .ok (.ireturn, 1) := by decide +kernel
theorem dX1_dimOf_47 : decode cX1_dimOf 47 = .ok (.iload_n 2, 1) := by decide +kernel
theorem dX1_dimOf_48 : decode cX1_dimOf 48 = .ok (.iconst 2, 1) := by decide +kernel
theorem dX1_dimOf_49 : decode cX1_dimOf 49 = .ok (.idiv, 1) := by decide +kernel
theorem dX1_dimOf_50 : decode cX1_dimOf 50 = .ok (.ireturn, 1) := by decide +kernel
theorem dX1_dimOf_51 : decode cX1_dimOf 51 = .ok (.iconst 0, 1) := by decide +kernel
theorem dX1_dimOf_52 : decode cX1_dimOf 52 = .ok (.ireturn, 1) := by decide +kernel
theorem dX1_dimOf_53 : decode cX1_dimOf 53 = .ok (.iload_n 2, 1) := by decide +kernel
theorem dX1_dimOf_54 : decode cX1_dimOf 54 = .ok (.aload_n 0, 1) := by decide +kernel
theorem dX1_dimOf_55 : decode cX1_dimOf 55 = .ok (.getfield 34, 3) := by decide +kernel
theorem dX1_dimOf_58 : decode cX1_dimOf 58 = .ok (.iconst 1, 1) := by decide +kernel
theorem dX1_dimOf_59 : decode cX1_dimOf 59 = .ok (.iaload, 1) := by decide +kernel
theorem dX1_dimOf_60 : decode cX1_dimOf 60 = .ok (.iadd, 1) := by decide +kernel
theorem dX1_dimOf_61 : decode cX1_dimOf 61 = .ok (.ireturn, 1) := by decide +kernel
theorem dX1_dimOf_62 : decode cX1_dimOf 62 = .ok (.iload_n 2, 1) := by decide +kernel
theorem dX1_dimOf_63 : decode cX1_dimOf 63 = .ok (.ireturn, 1) := by decide +kernel
theorem dX1_isBright_0 : decode cX1_isBright 0 = .ok (.iload_n 2, 1) := by decide +kernel
theorem dX1_isBright_1 : decode cX1_isBright 1 = .ok (.aload_n 0, 1) := by decide +kernel
theorem dX1_isBright_2 : decode cX1_isBright 2 = .ok (.iload_n 1, 1) := by decide +kernel
theorem dX1_isBright_3 : decode cX1_isBright 3 = .ok (.invokevirtual 64, 3) := by decide +kernel
theorem dX1_isBright_6 : decode cX1_isBright 6 = .ok (.if_icmp .le 7, 3) := by decide +kernel
theorem dX1_isBright_9 : decode cX1_isBright 9 = .ok (.iconst 1, 1) := by decide +kernel
theorem dX1_isBright_10 : decode cX1_isBright 10 = .ok (.goto 4, 3) := by decide +kernel
theorem dX1_isBright_13 : decode cX1_isBright 13 = .ok (.iconst 0, 1) := by decide +kernel
theorem dX1_isBright_14 : decode cX1_isBright 14 = .ok (.ireturn, 1) := by decide +kernel
theorem dX1_lifeNext_0 : decode cX1_lifeNext 0 = .ok (.iconst 0, 1) := by decide +kernel
theorem dX1_lifeNext_1 : decode cX1_lifeNext 1 = .ok (.iload_n 2, 1) := by decide +kernel
theorem dX1_lifeNext_2 : decode cX1_lifeNext 2 = .ok (.aload_n 0, 1) := by decide +kernel
theorem dX1_lifeNext_3 : decode cX1_lifeNext 3 = .ok (.iload_n 1, 1) := by decide +kernel
theorem dX1_lifeNext_4 : decode cX1_lifeNext 4 = .ok (.iload_n 2, 1) := by decide +kernel
theorem dX1_lifeNext_5 : decode cX1_lifeNext 5 = .ok (.iload_n 3, 1) := by decide +kernel
theorem dX1_lifeNext_6 : decode cX1_lifeNext 6 = .ok (.invokevirtual 68, 3) := by decide +kernel
theorem dX1_lifeNext_9 : decode cX1_lifeNext 9 = .ok (.isub, 1) := by decide +kernel
theorem dX1_lifeNext_10 : decode cX1_lifeNext 10 = .ok (.invokestatic 72, 3) := by decide +kernel
theorem dX1_lifeNext_13 : decode cX1_lifeNext 13 = .ok (.ireturn, 1) := by decide +kernel
theorem dX1_lifeBehind_0 : decode cX1_lifeBehind 0 = .ok (.aload_n 0, 1) := by decide +kernel
theorem dX1_lifeBehind_1 : decode cX1_lifeBehind 1 = .ok (.getfield 22, 3) := by decide +kernel
theorem dX1_lifeBehind_4 : decode cX1_lifeBehind 4 = .ok (.iload_n 1, 1) := by decide +kernel
theorem dX1_lifeBehind_5 : decode cX1_lifeBehind 5 = .ok (.iaload, 1) := by decide +kernel
theorem dX1_lifeBehind_6 : decode cX1_lifeBehind 6 = .ok (.istore 4, 2) := by decide +kernel
theorem dX1_lifeBehind_8 : decode cX1_lifeBehind 8 = .ok (.iconst 0, 1) := by decide +kernel
theorem dX1_lifeBehind_9 : decode cX1_lifeBehind 9 = .ok (.istore 5, 2) := by decide +kernel
theorem dX1_lifeBehind_11 : decode cX1_lifeBehind 11 = .ok (.iload 5, 2) := by decide +kernel
theorem dX1_lifeBehind_13 : decode cX1_lifeBehind 13 = .ok (.iload_n 3, 1) := by decide +kernel
theorem dX1_lifeBehind_14 : decode cX1_lifeBehind 14 = .ok (.if_icmp .ge 24, 3) := by decide +kernel
theorem dX1_lifeBehind_17 : decode cX1_lifeBehind 17 = .ok (.aload_n 0, 1) := by decide +kernel
theorem dX1_lifeBehind_18 : decode cX1_lifeBehind 18 = .ok (.aload_n 0, 1) := by decide +kernel
theorem dX1_lifeBehind_19 : decode cX1_lifeBehind 19 = .ok (.getfield 15, 3) := by decide +kernel
theorem dX1_lifeBehind_22 : decode cX1_lifeBehind 22 = .ok (.iload_n 1, 1) := by decide +kernel
theorem dX1_lifeBehind_23 : decode cX1_lifeBehind 23 = .ok (.iaload, 1) := by decide +kernel
theorem dX1_lifeBehind_24 : decode cX1_lifeBehind 24 = .ok (.iload 4, 2) := by decide +kernel
theorem dX1_lifeBehind_26 : decode cX1_lifeBehind 26 = .ok (.iload_n 2, 1) := by decide +kernel
theorem dX1_lifeBehind_27 : decode cX1_lifeBehind 27 = .ok (.invokevirtual 78, 3) := by decide +kernel
theorem dX1_lifeBehind_30 : decode cX1_lifeBehind 30 = .ok (.istore 4, 2) := by decide +kernel
theorem dX1_lifeBehind_32 : decode cX1_lifeBehind 32 = .ok (.iinc 5 1, 3) := by decide +kernel
theorem dX1_lifeBehind_35 : decode cX1_lifeBehind 35 = .ok (.goto (-24), 3) := by decide +kernel
theorem dX1_lifeBehind_38 : decode cX1_lifeBehind 38 = .ok (.iload 4, 2) := by decide +kernel
theorem dX1_lifeBehind_40 : decode cX1_lifeBehind 40 = .ok (.ireturn, 1) := by decide +kernel
theorem dX1_nightsBright_0 : decode cX1_nightsBright 0 = .ok (.aload_n 0, 1) := by decide +kernel
theorem dX1_nightsBright_1 : decode cX1_nightsBright 1 = .ok (.getfield 22, 3) := by decide +kernel
theorem dX1_nightsBright_4 : decode cX1_nightsBright 4 = .ok (.iload_n 1, 1) := by decide +kernel
theorem dX1_nightsBright_5 : decode cX1_nightsBright 5 = .ok (.iaload, 1) := by decide +kernel
theorem dX1_nightsBright_6 : decode cX1_nightsBright 6 = .ok (.istore_n 3, 1) := by decide +kernel
theorem dX1_nightsBright_7 : decode cX1_nightsBright 7 = .ok (.iconst 0, 1) := by decide +kernel
theorem dX1_nightsBright_8 : decode cX1_nightsBright 8 = .ok (.istore 4, 2) := by decide +kernel
theorem dX1_nightsBright_10 : decode cX1_nightsBright 10 = .ok (.iload 4, 2) := by decide +kernel
theorem dX1_nightsBright_12 : decode cX1_nightsBright 12 = .ok (.sipush 200, 3) := by decide +kernel
theorem dX1_nightsBright_15 : decode cX1_nightsBright 15 = .ok (.if_icmp .gt 31, 3) := by decide +kernel
theorem dX1_nightsBright_18 : decode cX1_nightsBright 18 = .ok (.aload_n 0, 1) := by decide +kernel
theorem dX1_nightsBright_19 : decode cX1_nightsBright 19 = .ok (.iload_n 2, 1) := by decide +kernel
theorem dX1_nightsBright_20 : decode cX1_nightsBright 20 = .ok (.iload_n 3, 1) := by decide +kernel
theorem dX1_nightsBright_21 : decode cX1_nightsBright 21 = .ok (.invokevirtual 81, 3) := by decide +kernel
theorem dX1_nightsBright_24 : decode cX1_nightsBright 24 = .ok (.ifCond .eq 22, 3) := by decide +kernel
theorem dX1_nightsBright_27 : decode cX1_nightsBright 27 = .ok (.aload_n 0, 1) := by decide +kernel
theorem dX1_nightsBright_28 : decode cX1_nightsBright 28 = .ok (.iload_n 2, 1) := by decide +kernel
theorem dX1_nightsBright_29 : decode cX1_nightsBright 29 = .ok (.iload_n 3, 1) := by decide +kernel
theorem dX1_nightsBright_30 : decode cX1_nightsBright 30 = .ok (.aload_n 0, 1) := by decide +kernel
theorem dX1_nightsBright_31 : decode cX1_nightsBright 31 = .ok (.getfield 34, 3) := by decide +kernel
theorem dX1_nightsBright_34 : decode cX1_nightsBright 34 = .ok (.iconst 0, 1) := by decide +kernel
theorem dX1_nightsBright_35 : decode cX1_nightsBright 35 = .ok (.iaload, 1) := by decide +kernel
theorem dX1_nightsBright_36 : decode cX1_nightsBright 36 = .ok (.invokevirtual 78, 3) := by decide +kernel
theorem dX1_nightsBright_39 : decode cX1_nightsBright 39 = .ok (.istore_n 3, 1) := by decide +kernel
theorem dX1_nightsBright_40 : decode cX1_nightsBright 40 = .ok (.iinc 4 1, 3) := by decide +kernel
theorem dX1_nightsBright_43 : decode cX1_nightsBright 43 = .ok (.goto (-33), 3) := by decide +kernel
theorem dX1_nightsBright_46 : decode cX1_nightsBright 46 = .ok (.iload 4, 2) := by decide +kernel
theorem dX1_nightsBright_48 : decode cX1_nightsBright 48 = .ok (.ireturn, 1) := by decide +kernel
theorem dX1_passNight_0 : decode cX1_passNight 0 = .ok (.aload_n 0, 1) := by decide +kernel
theorem dX1_passNight_1 : decode cX1_passNight 1 = .ok (.aload_n 0, 1) := by decide +kernel
theorem dX1_passNight_2 : decode cX1_passNight 2 = .ok (.getfield 22, 3) := by decide +kernel
theorem dX1_passNight_5 : decode cX1_passNight 5 = .ok (.invokevirtual 85, 3) := by decide +kernel
theorem dX1_passNight_8 : decode cX1_passNight 8 = .ok (.aload_n 0, 1) := by decide +kernel
theorem dX1_passNight_9 : decode cX1_passNight 9 = .ok (.dup, 1) := by decide +kernel
theorem dX1_passNight_10 : decode cX1_passNight 10 = .ok (.getfield 37, 3) := by decide +kernel
theorem dX1_passNight_13 : decode cX1_passNight 13 = .ok (.iconst 1, 1) := by decide +kernel
theorem dX1_passNight_14 : decode cX1_passNight 14 = .ok (.iadd, 1) := by decide +kernel
theorem dX1_passNight_15 : decode cX1_passNight 15 = .ok (.putfield 37, 3) := by decide +kernel
theorem dX1_passNight_18 : decode cX1_passNight 18 = .ok (.return_, 1) := by decide +kernel
theorem dX1_wearDown_0 : decode cX1_wearDown 0 = .ok (.iconst 0, 1) := by decide +kernel
theorem dX1_wearDown_1 : decode cX1_wearDown 1 = .ok (.istore_n 2, 1) := by decide +kernel
theorem dX1_wearDown_2 : decode cX1_wearDown 2 = .ok (.iload_n 2, 1) := by decide +kernel
theorem dX1_wearDown_3 : decode cX1_wearDown 3 = .ok (.aload_n 0, 1) := by decide +kernel
theorem dX1_wearDown_4 : decode cX1_wearDown 4 = .ok (.getfield 9, 3) := by decide +kernel
theorem dX1_wearDown_7 : decode cX1_wearDown 7 = .ok (.if_icmp .ge 31, 3) := by decide +kernel
theorem dX1_wearDown_10 : decode cX1_wearDown 10 = .ok (.aload_n 1, 1) := by decide +kernel
theorem dX1_wearDown_11 : decode cX1_wearDown 11 = .ok (.iload_n 2, 1) := by decide +kernel
theorem dX1_wearDown_12 : decode cX1_wearDown 12 = .ok (.aload_n 0, 1) := by decide +kernel
theorem dX1_wearDown_13 : decode cX1_wearDown 13 = .ok (.aload_n 0, 1) := by decide +kernel
theorem dX1_wearDown_14 : decode cX1_wearDown 14 = .ok (.getfield 15, 3) := by decide +kernel
theorem dX1_wearDown_17 : decode cX1_wearDown 17 = .ok (.iload_n 2, 1) := by decide +kernel
theorem dX1_wearDown_18 : decode cX1_wearDown 18 = .ok (.iaload, 1) := by decide +kernel
theorem dX1_wearDown_19 : decode cX1_wearDown 19 = .ok (.aload_n 1, 1) := by decide +kernel
theorem dX1_wearDown_20 : decode cX1_wearDown 20 = .ok (.iload_n 2, 1) := by decide +kernel
theorem dX1_wearDown_21 : decode cX1_wearDown 21 = .ok (.iaload, 1) := by decide +kernel
theorem dX1_wearDown_22 : decode cX1_wearDown 22 = .ok (.aload_n 0, 1) := by decide +kernel
theorem dX1_wearDown_23 : decode cX1_wearDown 23 = .ok (.getfield 34, 3) := by decide +kernel
theorem dX1_wearDown_26 : decode cX1_wearDown 26 = .ok (.iconst 0, 1) := by decide +kernel
theorem dX1_wearDown_27 : decode cX1_wearDown 27 = .ok (.iaload, 1) := by decide +kernel
theorem dX1_wearDown_28 : decode cX1_wearDown 28 = .ok (.invokevirtual 78, 3) := by decide +kernel
theorem dX1_wearDown_31 : decode cX1_wearDown 31 = .ok (.iastore, 1) := by decide +kernel
theorem dX1_wearDown_32 : decode cX1_wearDown 32 = .ok (.iinc 2 1, 3) := by decide +kernel
theorem dX1_wearDown_35 : decode cX1_wearDown 35 = .ok (.goto (-33), 3) := by decide +kernel
theorem dX1_wearDown_38 : decode cX1_wearDown 38 = .ok (.return_, 1) := by decide +kernel
theorem dX1_mendDark_0 : decode cX1_mendDark 0 = .ok (.iconst 0, 1) := by decide +kernel
theorem dX1_mendDark_1 : decode cX1_mendDark 1 = .ok (.istore_n 2, 1) := by decide +kernel
theorem dX1_mendDark_2 : decode cX1_mendDark 2 = .ok (.iconst 0, 1) := by decide +kernel
theorem dX1_mendDark_3 : decode cX1_mendDark 3 = .ok (.istore_n 3, 1) := by decide +kernel
theorem dX1_mendDark_4 : decode cX1_mendDark 4 = .ok (.iload_n 3, 1) := by decide +kernel
theorem dX1_mendDark_5 : decode cX1_mendDark 5 = .ok (.aload_n 0, 1) := by decide +kernel
theorem dX1_mendDark_6 : decode cX1_mendDark 6 = .ok (.getfield 9, 3) := by decide +kernel
theorem dX1_mendDark_9 : decode cX1_mendDark 9 = .ok (.if_icmp .ge 33, 3) := by decide +kernel
theorem dX1_mendDark_12 : decode cX1_mendDark 12 = .ok (.aload_n 0, 1) := by decide +kernel
theorem dX1_mendDark_13 : decode cX1_mendDark 13 = .ok (.aload_n 0, 1) := by decide +kernel
theorem dX1_mendDark_14 : decode cX1_mendDark 14 = .ok (.getfield 15, 3) := by decide +kernel
theorem dX1_mendDark_17 : decode cX1_mendDark 17 = .ok (.iload_n 3, 1) := by decide +kernel
theorem dX1_mendDark_18 : decode cX1_mendDark 18 = .ok (.iaload, 1) := by decide +kernel
theorem dX1_mendDark_19 : decode cX1_mendDark 19 = .ok (.aload_n 1, 1) := by decide +kernel
theorem dX1_mendDark_20 : decode cX1_mendDark 20 = .ok (.iload_n 3, 1) := by decide +kernel
theorem dX1_mendDark_21 : decode cX1_mendDark 21 = .ok (.iaload, 1) := by decide +kernel
theorem dX1_mendDark_22 : decode cX1_mendDark 22 = .ok (.invokevirtual 81, 3) := by decide +kernel
theorem dX1_mendDark_25 : decode cX1_mendDark 25 = .ok (.ifCond .ne 11, 3) := by decide +kernel
theorem dX1_mendDark_28 : decode cX1_mendDark 28 = .ok (.aload_n 1, 1) := by decide +kernel
theorem dX1_mendDark_29 : decode cX1_mendDark 29 = .ok (.iload_n 3, 1) := by decide +kernel
theorem dX1_mendDark_30 : decode cX1_mendDark 30 = .ok (.bipush 99, 2) := by decide +kernel
theorem dX1_mendDark_32 : decode cX1_mendDark 32 = .ok (.iastore, 1) := by decide +kernel
theorem dX1_mendDark_33 : decode cX1_mendDark 33 = .ok (.iinc 2 1, 3) := by decide +kernel
theorem dX1_mendDark_36 : decode cX1_mendDark 36 = .ok (.iinc 3 1, 3) := by decide +kernel
theorem dX1_mendDark_39 : decode cX1_mendDark 39 = .ok (.goto (-35), 3) := by decide +kernel
theorem dX1_mendDark_42 : decode cX1_mendDark 42 = .ok (.iload_n 2, 1) := by decide +kernel
theorem dX1_mendDark_43 : decode cX1_mendDark 43 = .ok (.ireturn, 1) := by decide +kernel
theorem dX1_brightSet_0 : decode cX1_brightSet 0 = .ok (.iconst 0, 1) := by decide +kernel
theorem dX1_brightSet_1 : decode cX1_brightSet 1 = .ok (.istore_n 2, 1) := by decide +kernel
theorem dX1_brightSet_2 : decode cX1_brightSet 2 = .ok (.iconst 0, 1) := by decide +kernel
theorem dX1_brightSet_3 : decode cX1_brightSet 3 = .ok (.istore_n 3, 1) := by decide +kernel
theorem dX1_brightSet_4 : decode cX1_brightSet 4 = .ok (.iload_n 3, 1) := by decide +kernel
theorem dX1_brightSet_5 : decode cX1_brightSet 5 = .ok (.aload_n 0, 1) := by decide +kernel
theorem dX1_brightSet_6 : decode cX1_brightSet 6 = .ok (.getfield 9, 3) := by decide +kernel
theorem dX1_brightSet_9 : decode cX1_brightSet 9 = .ok (.if_icmp .ge 31, 3) := by decide +kernel
theorem dX1_brightSet_12 : decode cX1_brightSet 12 = .ok (.aload_n 0, 1) := by decide +kernel
theorem dX1_brightSet_13 : decode cX1_brightSet 13 = .ok (.aload_n 0, 1) := by decide +kernel
theorem dX1_brightSet_14 : decode cX1_brightSet 14 = .ok (.getfield 15, 3) := by decide +kernel
theorem dX1_brightSet_17 : decode cX1_brightSet 17 = .ok (.iload_n 3, 1) := by decide +kernel
theorem dX1_brightSet_18 : decode cX1_brightSet 18 = .ok (.iaload, 1) := by decide +kernel
theorem dX1_brightSet_19 : decode cX1_brightSet 19 = .ok (.aload_n 1, 1) := by decide +kernel
theorem dX1_brightSet_20 : decode cX1_brightSet 20 = .ok (.iload_n 3, 1) := by decide +kernel
theorem dX1_brightSet_21 : decode cX1_brightSet 21 = .ok (.iaload, 1) := by decide +kernel
theorem dX1_brightSet_22 : decode cX1_brightSet 22 = .ok (.invokevirtual 81, 3) := by decide +kernel
theorem dX1_brightSet_25 : decode cX1_brightSet 25 = .ok (.ifCond .eq 9, 3) := by decide +kernel
theorem dX1_brightSet_28 : decode cX1_brightSet 28 = .ok (.iload_n 2, 1) := by decide +kernel
theorem dX1_brightSet_29 : decode cX1_brightSet 29 = .ok (.iconst 1, 1) := by decide +kernel
theorem dX1_brightSet_30 : decode cX1_brightSet 30 = .ok (.iload_n 3, 1) := by decide +kernel
theorem dX1_brightSet_31 : decode cX1_brightSet 31 = .ok (.ishl, 1) := by decide +kernel
theorem dX1_brightSet_32 : decode cX1_brightSet 32 = .ok (.ior, 1) := by decide +kernel
theorem dX1_brightSet_33 : decode cX1_brightSet 33 = .ok (.istore_n 2, 1) := by decide +kernel
theorem dX1_brightSet_34 : decode cX1_brightSet 34 = .ok (.iinc 3 1, 3) := by decide +kernel
theorem dX1_brightSet_37 : decode cX1_brightSet 37 = .ok (.goto (-33), 3) := by decide +kernel
theorem dX1_brightSet_40 : decode cX1_brightSet 40 = .ok (.iload_n 2, 1) := by decide +kernel
theorem dX1_brightSet_41 : decode cX1_brightSet 41 = .ok (.ireturn, 1) := by decide +kernel
theorem dX1_lifeTogether_0 : decode cX1_lifeTogether 0 = .ok (.iconst 0, 1) := by decide +kernel
theorem dX1_lifeTogether_1 : decode cX1_lifeTogether 1 = .ok (.istore_n 1, 1) := by decide +kernel
theorem dX1_lifeTogether_2 : decode cX1_lifeTogether 2 = .ok (.iconst 0, 1) := by decide +kernel
theorem dX1_lifeTogether_3 : decode cX1_lifeTogether 3 = .ok (.istore_n 2, 1) := by decide +kernel
theorem dX1_lifeTogether_4 : decode cX1_lifeTogether 4 = .ok (.iload_n 2, 1) := by decide +kernel
theorem dX1_lifeTogether_5 : decode cX1_lifeTogether 5 = .ok (.aload_n 0, 1) := by decide +kernel
theorem dX1_lifeTogether_6 : decode cX1_lifeTogether 6 = .ok (.getfield 9, 3) := by decide +kernel
theorem dX1_lifeTogether_9 : decode cX1_lifeTogether 9 = .ok (.if_icmp .ge 18, 3) := by decide +kernel
theorem dX1_lifeTogether_12 : decode cX1_lifeTogether 12 = .ok (.iload_n 1, 1) := by decide +kernel
theorem dX1_lifeTogether_13 : decode cX1_lifeTogether 13 = .ok (.aload_n 0, 1) := by decide +kernel
theorem dX1_lifeTogether_14 : decode cX1_lifeTogether 14 = .ok (.getfield 22, 3) := by decide +kernel
theorem dX1_lifeTogether_17 : decode cX1_lifeTogether 17 = .ok (.iload_n 2, 1) := by decide +kernel
theorem dX1_lifeTogether_18 : decode cX1_lifeTogether 18 = .ok (.iaload, 1) := by decide +kernel
theorem dX1_lifeTogether_19 : decode cX1_lifeTogether 19 = .ok (.iadd, 1) := by decide +kernel
theorem dX1_lifeTogether_20 : decode cX1_lifeTogether 20 = .ok (.istore_n 1, 1) := by decide +kernel
theorem dX1_lifeTogether_21 : decode cX1_lifeTogether 21 = .ok (.iinc 2 1, 3) := by decide +kernel
theorem dX1_lifeTogether_24 : decode cX1_lifeTogether 24 = .ok (.goto (-20), 3) := by decide +kernel
theorem dX1_lifeTogether_27 : decode cX1_lifeTogether 27 = .ok (.iload_n 1, 1) := by decide +kernel
theorem dX1_lifeTogether_28 : decode cX1_lifeTogether 28 = .ok (.ireturn, 1) := by decide +kernel
theorem dX1_worthOf_0 : decode cX1_worthOf 0 = .ok (.iconst 0, 1) := by decide +kernel
theorem dX1_worthOf_1 : decode cX1_worthOf 1 = .ok (.istore_n 2, 1) := by decide +kernel
theorem dX1_worthOf_2 : decode cX1_worthOf 2 = .ok (.iconst 0, 1) := by decide +kernel
theorem dX1_worthOf_3 : decode cX1_worthOf 3 = .ok (.istore_n 3, 1) := by decide +kernel
theorem dX1_worthOf_4 : decode cX1_worthOf 4 = .ok (.iload_n 3, 1) := by decide +kernel
theorem dX1_worthOf_5 : decode cX1_worthOf 5 = .ok (.aload_n 0, 1) := by decide +kernel
theorem dX1_worthOf_6 : decode cX1_worthOf 6 = .ok (.getfield 9, 3) := by decide +kernel
theorem dX1_worthOf_9 : decode cX1_worthOf 9 = .ok (.if_icmp .ge 27, 3) := by decide +kernel
theorem dX1_worthOf_12 : decode cX1_worthOf 12 = .ok (.iload_n 1, 1) := by decide +kernel
theorem dX1_worthOf_13 : decode cX1_worthOf 13 = .ok (.iload_n 3, 1) := by decide +kernel
theorem dX1_worthOf_14 : decode cX1_worthOf 14 = .ok (.ishr, 1) := by decide +kernel
theorem dX1_worthOf_15 : decode cX1_worthOf 15 = .ok (.iconst 1, 1) := by decide +kernel
theorem dX1_worthOf_16 : decode cX1_worthOf 16 = .ok (.iand, 1) := by decide +kernel
theorem dX1_worthOf_17 : decode cX1_worthOf 17 = .ok (.iconst 1, 1) := by decide +kernel
theorem dX1_worthOf_18 : decode cX1_worthOf 18 = .ok (.if_icmp .ne 12, 3) := by decide +kernel
theorem dX1_worthOf_21 : decode cX1_worthOf 21 = .ok (.iload_n 2, 1) := by decide +kernel
theorem dX1_worthOf_22 : decode cX1_worthOf 22 = .ok (.aload_n 0, 1) := by decide +kernel
theorem dX1_worthOf_23 : decode cX1_worthOf 23 = .ok (.getfield 25, 3) := by decide +kernel
theorem dX1_worthOf_26 : decode cX1_worthOf 26 = .ok (.iload_n 3, 1) := by decide +kernel
theorem dX1_worthOf_27 : decode cX1_worthOf 27 = .ok (.iaload, 1) := by decide +kernel
theorem dX1_worthOf_28 : decode cX1_worthOf 28 = .ok (.iadd, 1) := by decide +kernel
theorem dX1_worthOf_29 : decode cX1_worthOf 29 = .ok (.istore_n 2, 1) := by decide +kernel
theorem dX1_worthOf_30 : decode cX1_worthOf 30 = .ok (.iinc 3 1, 3) := by decide +kernel
theorem dX1_worthOf_33 : decode cX1_worthOf 33 = .ok (.goto (-29), 3) := by decide +kernel
theorem dX1_worthOf_36 : decode cX1_worthOf 36 = .ok (.iload_n 2, 1) := by decide +kernel
theorem dX1_worthOf_37 : decode cX1_worthOf 37 = .ok (.ireturn, 1) := by decide +kernel
theorem dX1_signsWith_0 : decode cX1_signsWith 0 = .ok (.iconst 0, 1) := by decide +kernel
theorem dX1_signsWith_1 : decode cX1_signsWith 1 = .ok (.istore_n 2, 1) := by decide +kernel
theorem dX1_signsWith_2 : decode cX1_signsWith 2 = .ok (.iconst 0, 1) := by decide +kernel
theorem dX1_signsWith_3 : decode cX1_signsWith 3 = .ok (.istore_n 3, 1) := by decide +kernel
theorem dX1_signsWith_4 : decode cX1_signsWith 4 = .ok (.iload_n 3, 1) := by decide +kernel
theorem dX1_signsWith_5 : decode cX1_signsWith 5 = .ok (.aload_n 0, 1) := by decide +kernel
theorem dX1_signsWith_6 : decode cX1_signsWith 6 = .ok (.getfield 40, 3) := by decide +kernel
theorem dX1_signsWith_9 : decode cX1_signsWith 9 = .ok (.if_icmp .ge 28, 3) := by decide +kernel
theorem dX1_signsWith_12 : decode cX1_signsWith 12 = .ok (.iload_n 1, 1) := by decide +kernel
theorem dX1_signsWith_13 : decode cX1_signsWith 13 = .ok (.aload_n 0, 1) := by decide +kernel
theorem dX1_signsWith_14 : decode cX1_signsWith 14 = .ok (.getfield 43, 3) := by decide +kernel
theorem dX1_signsWith_17 : decode cX1_signsWith 17 = .ok (.iload_n 3, 1) := by decide +kernel
theorem dX1_signsWith_18 : decode cX1_signsWith 18 = .ok (.iaload, 1) := by decide +kernel
theorem dX1_signsWith_19 : decode cX1_signsWith 19 = .ok (.iconst (-1), 1) := by decide +kernel
theorem dX1_signsWith_20 : decode cX1_signsWith 20 = .ok (.ixor, 1) := by decide +kernel
theorem dX1_signsWith_21 : decode cX1_signsWith 21 = .ok (.iand, 1) := by decide +kernel
theorem dX1_signsWith_22 : decode cX1_signsWith 22 = .ok (.ifCond .ne 9, 3) := by decide +kernel
theorem dX1_signsWith_25 : decode cX1_signsWith 25 = .ok (.iload_n 2, 1) := by decide +kernel
theorem dX1_signsWith_26 : decode cX1_signsWith 26 = .ok (.iconst 1, 1) := by decide +kernel
theorem dX1_signsWith_27 : decode cX1_signsWith 27 = .ok (.iload_n 3, 1) := by decide +kernel
theorem dX1_signsWith_28 : decode cX1_signsWith 28 = .ok (.ishl, 1) := by decide +kernel
theorem dX1_signsWith_29 : decode cX1_signsWith 29 = .ok (.ior, 1) := by decide +kernel
theorem dX1_signsWith_30 : decode cX1_signsWith 30 = .ok (.istore_n 2, 1) := by decide +kernel
theorem dX1_signsWith_31 : decode cX1_signsWith 31 = .ok (.iinc 3 1, 3) := by decide +kernel
theorem dX1_signsWith_34 : decode cX1_signsWith 34 = .ok (.goto (-30), 3) := by decide +kernel
theorem dX1_signsWith_37 : decode cX1_signsWith 37 = .ok (.iload_n 2, 1) := by decide +kernel
theorem dX1_signsWith_38 : decode cX1_signsWith 38 = .ok (.ireturn, 1) := by decide +kernel
theorem dX1_nearestOf_0 : decode cX1_nearestOf 0 = .ok (.ldc 89, 2) := by decide +kernel
theorem dX1_nearestOf_2 : decode cX1_nearestOf 2 = .ok (.istore_n 3, 1) := by decide +kernel
theorem dX1_nearestOf_3 : decode cX1_nearestOf 3 = .ok (.iconst (-1), 1) := by decide +kernel
theorem dX1_nearestOf_4 : decode cX1_nearestOf 4 = .ok (.istore 4, 2) := by decide +kernel
theorem dX1_nearestOf_6 : decode cX1_nearestOf 6 = .ok (.iconst 0, 1) := by decide +kernel
theorem dX1_nearestOf_7 : decode cX1_nearestOf 7 = .ok (.istore 5, 2) := by decide +kernel
theorem dX1_nearestOf_9 : decode cX1_nearestOf 9 = .ok (.iload 5, 2) := by decide +kernel
theorem dX1_nearestOf_11 : decode cX1_nearestOf 11 = .ok (.aload_n 0, 1) := by decide +kernel
theorem dX1_nearestOf_12 : decode cX1_nearestOf 12 = .ok (.getfield 9, 3) := by decide +kernel
theorem dX1_nearestOf_15 : decode cX1_nearestOf 15 = .ok (.if_icmp .ge 45, 3) := by decide +kernel
theorem dX1_nearestOf_18 : decode cX1_nearestOf 18 = .ok (.iload_n 2, 1) := by decide +kernel
theorem dX1_nearestOf_19 : decode cX1_nearestOf 19 = .ok (.aload_n 0, 1) := by decide +kernel
theorem dX1_nearestOf_20 : decode cX1_nearestOf 20 = .ok (.getfield 19, 3) := by decide +kernel
theorem dX1_nearestOf_23 : decode cX1_nearestOf 23 = .ok (.iload 5, 2) := by decide +kernel
theorem dX1_nearestOf_25 : decode cX1_nearestOf 25 = .ok (.iaload, 1) := by decide +kernel
theorem dX1_nearestOf_26 : decode cX1_nearestOf 26 = .ok (.invokestatic 90, 3) := by decide +kernel
theorem dX1_nearestOf_29 : decode cX1_nearestOf 29 = .ok (.istore 6, 2) := by decide +kernel
theorem dX1_nearestOf_31 : decode cX1_nearestOf 31 = .ok (.iload_n 1, 1) := by decide +kernel
theorem dX1_nearestOf_32 : decode cX1_nearestOf 32 = .ok (.iload 5, 2) := by decide +kernel
theorem dX1_nearestOf_34 : decode cX1_nearestOf 34 = .ok (.ishr, 1) := by decide +kernel
theorem dX1_nearestOf_35 : decode cX1_nearestOf 35 = .ok (.iconst 1, 1) := by decide +kernel
theorem dX1_nearestOf_36 : decode cX1_nearestOf 36 = .ok (.iand, 1) := by decide +kernel
theorem dX1_nearestOf_37 : decode cX1_nearestOf 37 = .ok (.iconst 1, 1) := by decide +kernel
theorem dX1_nearestOf_38 : decode cX1_nearestOf 38 = .ok (.if_icmp .ne 16, 3) := by decide +kernel
theorem dX1_nearestOf_41 : decode cX1_nearestOf 41 = .ok (.iload 6, 2) := by decide +kernel
theorem dX1_nearestOf_43 : decode cX1_nearestOf 43 = .ok (.iload_n 3, 1) := by decide +kernel
theorem dX1_nearestOf_44 : decode cX1_nearestOf 44 = .ok (.if_icmp .ge 10, 3) := by decide +kernel
theorem dX1_nearestOf_47 : decode cX1_nearestOf 47 = .ok (.iload 6, 2) := by decide +kernel
theorem dX1_nearestOf_49 : decode cX1_nearestOf 49 = .ok (.istore_n 3, 1) := by decide +kernel
theorem dX1_nearestOf_50 : decode cX1_nearestOf 50 = .ok (.iload 5, 2) := by decide +kernel
theorem dX1_nearestOf_52 : decode cX1_nearestOf 52 = .ok (.istore 4, 2) := by decide +kernel
theorem dX1_nearestOf_54 : decode cX1_nearestOf 54 = .ok (.iinc 5 1, 3) := by decide +kernel
theorem dX1_nearestOf_57 : decode cX1_nearestOf 57 = .ok (.goto (-48), 3) := by decide +kernel
theorem dX1_nearestOf_60 : decode cX1_nearestOf 60 = .ok (.iload 4, 2) := by decide +kernel
theorem dX1_nearestOf_62 : decode cX1_nearestOf 62 = .ok (.ireturn, 1) := by decide +kernel
theorem dX1_spotsHeld_0 : decode cX1_spotsHeld 0 = .ok (.iconst 0, 1) := by decide +kernel
theorem dX1_spotsHeld_1 : decode cX1_spotsHeld 1 = .ok (.istore_n 1, 1) := by decide +kernel
theorem dX1_spotsHeld_2 : decode cX1_spotsHeld 2 = .ok (.iconst 0, 1) := by decide +kernel
theorem dX1_spotsHeld_3 : decode cX1_spotsHeld 3 = .ok (.istore_n 2, 1) := by decide +kernel
theorem dX1_spotsHeld_4 : decode cX1_spotsHeld 4 = .ok (.iload_n 2, 1) := by decide +kernel
theorem dX1_spotsHeld_5 : decode cX1_spotsHeld 5 = .ok (.bipush 10, 2) := by decide +kernel
theorem dX1_spotsHeld_7 : decode cX1_spotsHeld 7 = .ok (.if_icmp .ge 21, 3) := by decide +kernel
theorem dX1_spotsHeld_10 : decode cX1_spotsHeld 10 = .ok (.aload_n 0, 1) := by decide +kernel
theorem dX1_spotsHeld_11 : decode cX1_spotsHeld 11 = .ok (.getfield 46, 3) := by decide +kernel
theorem dX1_spotsHeld_14 : decode cX1_spotsHeld 14 = .ok (.iload_n 2, 1) := by decide +kernel
theorem dX1_spotsHeld_15 : decode cX1_spotsHeld 15 = .ok (.iaload, 1) := by decide +kernel
theorem dX1_spotsHeld_16 : decode cX1_spotsHeld 16 = .ok (.ifCond .lt 6, 3) := by decide +kernel
theorem dX1_spotsHeld_19 : decode cX1_spotsHeld 19 = .ok (.iinc 1 1, 3) := by decide +kernel
theorem dX1_spotsHeld_22 : decode cX1_spotsHeld 22 = .ok (.iinc 2 1, 3) := by decide +kernel
theorem dX1_spotsHeld_25 : decode cX1_spotsHeld 25 = .ok (.goto (-21), 3) := by decide +kernel
theorem dX1_spotsHeld_28 : decode cX1_spotsHeld 28 = .ok (.iload_n 1, 1) := by decide +kernel
theorem dX1_spotsHeld_29 : decode cX1_spotsHeld 29 = .ok (.ireturn, 1) := by decide +kernel
theorem dX1_draw_0 : decode cX1_draw 0 = .ok (.aload_n 0, 1) := by decide +kernel
theorem dX1_draw_1 : decode cX1_draw 1 = .ok (.aload_n 0, 1) := by decide +kernel
theorem dX1_draw_2 : decode cX1_draw 2 = .ok (.getfield 49, 3) := by decide +kernel
theorem dX1_draw_5 : decode cX1_draw 5 = .ok (.ldc 93, 2) := by decide +kernel
theorem dX1_draw_7 : decode cX1_draw 7 = .ok (.imul, 1) := by decide +kernel
theorem dX1_draw_8 : decode cX1_draw 8 = .ok (.sipush 12345, 3) := by decide +kernel
theorem dX1_draw_11 : decode cX1_draw 11 = .ok (.iadd, 1) := by decide +kernel
theorem dX1_draw_12 : decode cX1_draw 12 = .ok (.putfield 49, 3) := by decide +kernel
theorem dX1_draw_15 : decode cX1_draw 15 = .ok (.aload_n 0, 1) := by decide +kernel
theorem dX1_draw_16 : decode cX1_draw 16 = .ok (.getfield 49, 3) := by decide +kernel
theorem dX1_draw_19 : decode cX1_draw 19 = .ok (.bipush 8, 2) := by decide +kernel
theorem dX1_draw_21 : decode cX1_draw 21 = .ok (.iushr, 1) := by decide +kernel
theorem dX1_draw_22 : decode cX1_draw 22 = .ok (.ireturn, 1) := by decide +kernel
theorem dX2_init_0 : decode cX2_init 0 = .ok (.aload_n 0, 1) := by decide +kernel
theorem dX2_init_1 : decode cX2_init 1 = .ok (.invokespecial 3, 3) := by decide +kernel
theorem dX2_init_4 : decode cX2_init 4 = .ok (.aload_n 0, 1) := by decide +kernel
theorem dX2_init_5 : decode cX2_init 5 = .ok (.bipush 120, 2) := by decide +kernel
theorem dX2_init_7 : decode cX2_init 7 = .ok (.newarray .byte, 2) := by decide +kernel
theorem dX2_init_9 : decode cX2_init 9 = .ok (.putfield 9, 3) := by decide +kernel
theorem dX2_init_12 : decode cX2_init 12 = .ok (.aload_n 0, 1) := by decide +kernel
theorem dX2_init_13 : decode cX2_init 13 = .ok (.iconst 0, 1) := by decide +kernel
theorem dX2_init_14 : decode cX2_init 14 = .ok (.putfield 15, 3) := by decide +kernel
theorem dX2_init_17 : decode cX2_init 17 = .ok (.aload_n 0, 1) := by decide +kernel
theorem dX2_init_18 : decode cX2_init 18 = .ok (.iconst 0, 1) := by decide +kernel
theorem dX2_init_19 : decode cX2_init 19 = .ok (.putfield 19, 3) := by decide +kernel
theorem dX2_init_22 : decode cX2_init 22 = .ok (.aload_n 0, 1) := by decide +kernel
theorem dX2_init_23 : decode cX2_init 23 = .ok (.iconst 0, 1) := by decide +kernel
theorem dX2_init_24 : decode cX2_init 24 = .ok (.putfield 22, 3) := by decide +kernel
theorem dX2_init_27 : decode cX2_init 27 = .ok (.aload_n 0, 1) := by decide +kernel
theorem dX2_init_28 : decode cX2_init 28 = .ok (.iconst 0, 1) := by decide +kernel
theorem dX2_init_29 : decode cX2_init 29 = .ok (.putfield 25, 3) := by decide +kernel
theorem dX2_init_32 : decode cX2_init 32 = .ok (.aload_n 0, 1) := by decide +kernel
theorem dX2_init_33 : decode cX2_init 33 = .ok (.iconst 0, 1) := by decide +kernel
theorem dX2_init_34 : decode cX2_init 34 = .ok (.putfield 28, 3) := by decide +kernel
theorem dX2_init_37 : decode cX2_init 37 = .ok (.return_, 1) := by decide +kernel
theorem dX2_append_0 : decode cX2_append 0 = .ok (.iload_n 2, 1) := by decide +kernel
theorem dX2_append_1 : decode cX2_append 1 = .ok (.iconst 1, 1) := by decide +kernel
theorem dX2_append_2 : decode cX2_append 2 = .ok (.isub, 1) := by decide +kernel
theorem dX2_append_3 : decode cX2_append 3 = .ok (.istore_n 3, 1) := by decide +kernel
theorem dX2_append_4 : decode cX2_append 4 = .ok (.iload_n 3, 1) := by decide +kernel
theorem dX2_append_5 : decode cX2_append 5 = .ok (.ifCond .lt 35, 3) := by decide +kernel
theorem dX2_append_8 : decode cX2_append 8 = .ok (.aload_n 0, 1) := by decide +kernel
theorem dX2_append_9 : decode cX2_append 9 = .ok (.getfield 9, 3) := by decide +kernel
theorem dX2_append_12 : decode cX2_append 12 = .ok (.aload_n 0, 1) := by decide +kernel
theorem dX2_append_13 : decode cX2_append 13 = .ok (.getfield 15, 3) := by decide +kernel
theorem dX2_append_16 : decode cX2_append 16 = .ok (.iload_n 1, 1) := by decide +kernel
theorem dX2_append_17 : decode cX2_append 17 = .ok (.bipush 8, 2) := by decide +kernel
theorem dX2_append_19 : decode cX2_append 19 = .ok (.iload_n 3, 1) := by decide +kernel
theorem dX2_append_20 : decode cX2_append 20 = .ok (.imul, 1) := by decide +kernel
theorem dX2_append_21 : decode cX2_append 21 = .ok (.ishr, 1) := by decide +kernel
theorem dX2_append_22 : decode cX2_append 22 = .ok (.i2b, 1) := by decide +kernel
theorem dX2_append_23 : decode cX2_append 23 = .ok (.bastore, 1) := by decide +kernel
theorem dX2_append_24 : decode cX2_append 24 = .ok (.aload_n 0, 1) := by decide +kernel
theorem dX2_append_25 : decode cX2_append 25 = .ok (.dup, 1) := by decide +kernel
theorem dX2_append_26 : decode cX2_append 26 = .ok (.getfield 15, 3) := by decide +kernel
theorem dX2_append_29 : decode cX2_append 29 = .ok (.iconst 1, 1) := by decide +kernel
theorem dX2_append_30 : decode cX2_append 30 = .ok (.iadd, 1) := by decide +kernel
theorem dX2_append_31 : decode cX2_append 31 = .ok (.putfield 15, 3) := by decide +kernel
theorem dX2_append_34 : decode cX2_append 34 = .ok (.iinc 3 (-1), 3) := by decide +kernel
theorem dX2_append_37 : decode cX2_append 37 = .ok (.goto (-33), 3) := by decide +kernel
theorem dX2_append_40 : decode cX2_append 40 = .ok (.return_, 1) := by decide +kernel
theorem dX2_rewind_0 : decode cX2_rewind 0 = .ok (.aload_n 0, 1) := by decide +kernel
theorem dX2_rewind_1 : decode cX2_rewind 1 = .ok (.iconst 0, 1) := by decide +kernel
theorem dX2_rewind_2 : decode cX2_rewind 2 = .ok (.putfield 28, 3) := by decide +kernel
theorem dX2_rewind_5 : decode cX2_rewind 5 = .ok (.aload_n 0, 1) := by decide +kernel
theorem dX2_rewind_6 : decode cX2_rewind 6 = .ok (.invokevirtual 31, 3) := by decide +kernel
theorem dX2_rewind_9 : decode cX2_rewind 9 = .ok (.return_, 1) := by decide +kernel
theorem dX2_advance_0 : decode cX2_advance 0 = .ok (.aload_n 0, 1) := by decide +kernel
theorem dX2_advance_1 : decode cX2_advance 1 = .ok (.getfield 28, 3) := by decide +kernel
theorem dX2_advance_4 : decode cX2_advance 4 = .ok (.aload_n 0, 1) := by decide +kernel
theorem dX2_advance_5 : decode cX2_advance 5 = .ok (.getfield 15, 3) := by decide +kernel
theorem dX2_advance_8 : decode cX2_advance 8 = .ok (.if_icmp .ge 30, 3) := by decide +kernel
theorem dX2_advance_11 : decode cX2_advance 11 = .ok (.aload_n 0, 1) := by decide +kernel
theorem dX2_advance_12 : decode cX2_advance 12 = .ok (.getfield 9, 3) := by decide +kernel
theorem dX2_advance_15 : decode cX2_advance 15 = .ok (.aload_n 0, 1) := by decide +kernel
theorem dX2_advance_16 : decode cX2_advance 16 = .ok (.getfield 28, 3) := by decide +kernel
theorem dX2_advance_19 : decode cX2_advance 19 = .ok (.baload, 1) := by decide +kernel
theorem dX2_advance_20 : decode cX2_advance 20 = .ok (.bipush 32, 2) := by decide +kernel
theorem dX2_advance_22 : decode cX2_advance 22 = .ok (.if_icmp .ne 16, 3) := by decide +kernel
theorem dX2_advance_25 : decode cX2_advance 25 = .ok (.aload_n 0, 1) := by decide +kernel
theorem dX2_advance_26 : decode cX2_advance 26 = .ok (.dup, 1) := by decide +kernel
theorem dX2_advance_27 : decode cX2_advance 27 = .ok (.getfield 28, 3) := by decide +kernel
theorem dX2_advance_30 : decode cX2_advance 30 = .ok (.iconst 1, 1) := by decide +kernel
theorem dX2_advance_31 : decode cX2_advance 31 = .ok (.iadd, 1) := by decide +kernel
theorem dX2_advance_32 : decode cX2_advance 32 = .ok (.putfield 28, 3) := by decide +kernel
theorem dX2_advance_35 : decode cX2_advance 35 = .ok (.goto (-35), 3) := by decide +kernel
theorem dX2_advance_38 : decode cX2_advance 38 = .ok (.aload_n 0, 1) := by decide +kernel
theorem dX2_advance_39 : decode cX2_advance 39 = .ok (.aload_n 0, 1) := by decide +kernel
theorem dX2_advance_40 : decode cX2_advance 40 = .ok (.getfield 28, 3) := by decide +kernel
theorem dX2_advance_43 : decode cX2_advance 43 = .ok (.putfield 22, 3) := by decide +kernel
theorem dX2_advance_46 : decode cX2_advance 46 = .ok (.aload_n 0, 1) := by decide +kernel
theorem dX2_advance_47 : decode cX2_advance 47 = .ok (.getfield 22, 3) := by decide +kernel
theorem dX2_advance_50 : decode cX2_advance 50 = .ok (.aload_n 0, 1) := by decide +kernel
theorem dX2_advance_51 : decode cX2_advance 51 = .ok (.getfield 15, 3) := by decide +kernel
theorem dX2_advance_54 : decode cX2_advance 54 = .ok (.if_icmp .lt 11, 3) := by decide +kernel
theorem dX2_advance_57 : decode cX2_advance 57 = .ok (.aload_n 0, 1) := by decide +kernel
theorem dX2_advance_58 : decode cX2_advance 58 = .ok (.iconst 0, 1) := by decide +kernel
theorem dX2_advance_59 : decode cX2_advance 59 = .ok (.putfield 19, 3) := by decide +kernel
theorem dX2_advance_62 : decode cX2_advance 62 = .ok (.goto 249, 3) := by decide +kernel
theorem dX2_advance_65 : decode cX2_advance 65 = .ok (.aload_n 0, 1) := by decide +kernel
theorem dX2_advance_66 : decode cX2_advance 66 = .ok (.getfield 9, 3) := by decide +kernel
theorem dX2_advance_69 : decode cX2_advance 69 = .ok (.aload_n 0, 1) := by decide +kernel
theorem dX2_advance_70 : decode cX2_advance 70 = .ok (.getfield 22, 3) := by decide +kernel
theorem dX2_advance_73 : decode cX2_advance 73 = .ok (.baload, 1) := by decide +kernel
theorem dX2_advance_74 : decode cX2_advance 74 = .ok (.bipush 97, 2) := by decide +kernel
theorem dX2_advance_76 : decode cX2_advance 76 = .ok (.if_icmp .lt 74, 3) := by decide +kernel
theorem dX2_advance_79 : decode cX2_advance 79 = .ok (.aload_n 0, 1) := by decide +kernel
theorem dX2_advance_80 : decode cX2_advance 80 = .ok (.getfield 9, 3) := by decide +kernel
theorem dX2_advance_83 : decode cX2_advance 83 = .ok (.aload_n 0, 1) := by decide +kernel
theorem dX2_advance_84 : decode cX2_advance 84 = .ok (.getfield 22, 3) := by decide +kernel
theorem dX2_advance_87 : decode cX2_advance 87 = .ok (.baload, 1) := by decide +kernel
theorem dX2_advance_88 : decode cX2_advance 88 = .ok (.bipush 122, 2) := by decide +kernel
theorem dX2_advance_90 : decode cX2_advance 90 = .ok (.if_icmp .gt 60, 3) := by decide +kernel
theorem dX2_advance_93 : decode cX2_advance 93 = .ok (.aload_n 0, 1) := by decide +kernel
theorem dX2_advance_94 : decode cX2_advance 94 = .ok (.iconst 1, 1) := by decide +kernel
theorem dX2_advance_95 : decode cX2_advance 95 = .ok (.putfield 19, 3) := by decide +kernel
theorem dX2_advance_98 : decode cX2_advance 98 = .ok (.aload_n 0, 1) := by decide +kernel
theorem dX2_advance_99 : decode cX2_advance 99 = .ok (.getfield 28, 3) := by decide +kernel
theorem dX2_advance_102 : decode cX2_advance 102 = .ok (.aload_n 0, 1) := by decide +kernel
theorem dX2_advance_103 : decode cX2_advance 103 = .ok (.getfield 15, 3) := by decide +kernel
theorem dX2_advance_106 : decode cX2_advance 106 = .ok (.if_icmp .ge 205, 3) := by decide +kernel
theorem dX2_advance_109 : decode cX2_advance 109 = .ok (.aload_n 0, 1) := by decide +kernel
theorem dX2_advance_110 : decode cX2_advance 110 = .ok (.getfield 9, 3) := by decide +kernel
theorem dX2_advance_113 : decode cX2_advance 113 = .ok (.aload_n 0, 1) := by decide +kernel
theorem dX2_advance_114 : decode cX2_advance 114 = .ok (.getfield 28, 3) := by decide +kernel
theorem dX2_advance_117 : decode cX2_advance 117 = .ok (.baload, 1) := by decide +kernel
theorem dX2_advance_118 : decode cX2_advance 118 = .ok (.bipush 97, 2) := by decide +kernel
theorem dX2_advance_120 : decode cX2_advance 120 = .ok (.if_icmp .lt 191, 3) := by decide +kernel
theorem dX2_advance_123 : decode cX2_advance 123 = .ok (.aload_n 0, 1) := by decide +kernel
theorem dX2_advance_124 : decode cX2_advance 124 = .ok (.getfield 9, 3) := by decide +kernel
theorem dX2_advance_127 : decode cX2_advance 127 = .ok (.aload_n 0, 1) := by decide +kernel
theorem dX2_advance_128 : decode cX2_advance 128 = .ok (.getfield 28, 3) := by decide +kernel
theorem dX2_advance_131 : decode cX2_advance 131 = .ok (.baload, 1) := by decide +kernel
theorem dX2_advance_132 : decode cX2_advance 132 = .ok (.bipush 122, 2) := by decide +kernel
theorem dX2_advance_134 : decode cX2_advance 134 = .ok (.if_icmp .gt 177, 3) := by decide +kernel
theorem dX2_advance_137 : decode cX2_advance 137 = .ok (.aload_n 0, 1) := by decide +kernel
theorem dX2_advance_138 : decode cX2_advance 138 = .ok (.dup, 1) := by decide +kernel
theorem dX2_advance_139 : decode cX2_advance 139 = .ok (.getfield 28, 3) := by decide +kernel
theorem dX2_advance_142 : decode cX2_advance 142 = .ok (.iconst 1, 1) := by decide +kernel
theorem dX2_advance_143 : decode cX2_advance 143 = .ok (.iadd, 1) := by decide +kernel
theorem dX2_advance_144 : decode cX2_advance 144 = .ok (.putfield 28, 3) := by decide +kernel
theorem dX2_advance_147 : decode cX2_advance 147 = .ok (.goto (-49), 3) := by decide +kernel
theorem dX2_advance_150 : decode cX2_advance 150 = .ok (.aload_n 0, 1) := by decide +kernel
theorem dX2_advance_151 : decode cX2_advance 151 = .ok (.getfield 9, 3) := by decide +kernel
theorem dX2_advance_154 : decode cX2_advance 154 = .ok (.aload_n 0, 1) := by decide +kernel
theorem dX2_advance_155 : decode cX2_advance 155 = .ok (.getfield 22, 3) := by decide +kernel
theorem dX2_advance_158 : decode cX2_advance 158 = .ok (.baload, 1) := by decide +kernel
theorem dX2_advance_159 : decode cX2_advance 159 = .ok (.bipush 48, 2) := by decide +kernel
theorem dX2_advance_161 : decode cX2_advance 161 = .ok (.if_icmp .lt 117, 3) := by decide +kernel
theorem dX2_advance_164 : decode cX2_advance 164 = .ok (.aload_n 0, 1) := by decide +kernel
theorem dX2_advance_165 : decode cX2_advance 165 = .ok (.getfield 9, 3) := by decide +kernel
theorem dX2_advance_168 : decode cX2_advance 168 = .ok (.aload_n 0, 1) := by decide +kernel
theorem dX2_advance_169 : decode cX2_advance 169 = .ok (.getfield 22, 3) := by decide +kernel
theorem dX2_advance_172 : decode cX2_advance 172 = .ok (.baload, 1) := by decide +kernel
theorem dX2_advance_173 : decode cX2_advance 173 = .ok (.bipush 57, 2) := by decide +kernel
theorem dX2_advance_175 : decode cX2_advance 175 = .ok (.if_icmp .gt 103, 3) := by decide +kernel
theorem dX2_advance_178 : decode cX2_advance 178 = .ok (.aload_n 0, 1) := by decide +kernel
theorem dX2_advance_179 : decode cX2_advance 179 = .ok (.iconst 2, 1) := by decide +kernel
theorem dX2_advance_180 : decode cX2_advance 180 = .ok (.putfield 19, 3) := by decide +kernel
theorem dX2_advance_183 : decode cX2_advance 183 = .ok (.aload_n 0, 1) := by decide +kernel
theorem dX2_advance_184 : decode cX2_advance 184 = .ok (.iconst 0, 1) := by decide +kernel
theorem dX2_advance_185 : decode cX2_advance 185 = .ok (.putfield 25, 3) := by decide +kernel
theorem dX2_advance_188 : decode cX2_advance 188 = .ok (.aload_n 0, 1) := by decide +kernel
theorem dX2_advance_189 : decode cX2_advance 189 = .ok (.getfield 28, 3) := by decide +kernel
theorem dX2_advance_192 : decode cX2_advance 192 = .ok (.aload_n 0, 1) := by decide +kernel
theorem dX2_advance_193 : decode cX2_advance 193 = .ok (.getfield 15, 3) := by decide +kernel
theorem dX2_advance_196 : decode cX2_advance 196 = .ok (.if_icmp .ge 115, 3) := by decide +kernel
theorem dX2_advance_199 : decode cX2_advance 199 = .ok (.aload_n 0, 1) := by decide +kernel
theorem dX2_advance_200 : decode cX2_advance 200 = .ok (.getfield 9, 3) := by decide +kernel
theorem dX2_advance_203 : decode cX2_advance 203 = .ok (.aload_n 0, 1) := by decide +kernel
theorem dX2_advance_204 : decode cX2_advance 204 = .ok (.getfield 28, 3) := by decide +kernel
theorem dX2_advance_207 : decode cX2_advance 207 = .ok (.baload, 1) := by decide +kernel
theorem dX2_advance_208 : decode cX2_advance 208 = .ok (.bipush 48, 2) := by decide +kernel
theorem dX2_advance_210 : decode cX2_advance 210 = .ok (.if_icmp .lt 101, 3) := by decide +kernel
theorem dX2_advance_213 : decode cX2_advance 213 = .ok (.aload_n 0, 1) := by decide +kernel
theorem dX2_advance_214 : decode cX2_advance 214 = .ok (.getfield 9, 3) := by decide +kernel
theorem dX2_advance_217 : decode cX2_advance 217 = .ok (.aload_n 0, 1) := by decide +kernel
theorem dX2_advance_218 : decode cX2_advance 218 = .ok (.getfield 28, 3) := by decide +kernel
theorem dX2_advance_221 : decode cX2_advance 221 = .ok (.baload, 1) := by decide +kernel
theorem dX2_advance_222 : decode cX2_advance 222 = .ok (.bipush 57, 2) := by decide +kernel
theorem dX2_advance_224 : decode cX2_advance 224 = .ok (.if_icmp .gt 87, 3) := by decide +kernel
theorem dX2_advance_227 : decode cX2_advance 227 = .ok (.aload_n 0, 1) := by decide +kernel
theorem dX2_advance_228 : decode cX2_advance 228 = .ok (.aload_n 0, 1) := by decide +kernel
theorem dX2_advance_229 : decode cX2_advance 229 = .ok (.getfield 25, 3) := by decide +kernel
theorem dX2_advance_232 : decode cX2_advance 232 = .ok (.ldc 34, 2) := by decide +kernel
theorem dX2_advance_234 : decode cX2_advance 234 = .ok (.if_icmp .lt 8, 3) := by decide +kernel
theorem dX2_advance_237 : decode cX2_advance 237 = .ok (.ldc 34, 2) := by decide +kernel
theorem dX2_advance_239 : decode cX2_advance 239 = .ok (.goto 23, 3) := by decide +kernel
theorem dX2_advance_242 : decode cX2_advance 242 = .ok (.aload_n 0, 1) := by decide +kernel
theorem dX2_advance_243 : decode cX2_advance 243 = .ok (.getfield 25, 3) := by decide +kernel
theorem dX2_advance_246 : decode cX2_advance 246 = .ok (.bipush 10, 2) := by decide +kernel
theorem dX2_advance_248 : decode cX2_advance 248 = .ok (.imul, 1) := by decide +kernel
theorem dX2_advance_249 : decode cX2_advance 249 = .ok (.aload_n 0, 1) := by decide +kernel
theorem dX2_advance_250 : decode cX2_advance 250 = .ok (.getfield 9, 3) := by decide +kernel
theorem dX2_advance_253 : decode cX2_advance 253 = .ok (.aload_n 0, 1) := by decide +kernel
theorem dX2_advance_254 : decode cX2_advance 254 = .ok (.getfield 28, 3) := by decide +kernel
theorem dX2_advance_257 : decode cX2_advance 257 = .ok (.baload, 1) := by decide +kernel
theorem dX2_advance_258 : decode cX2_advance 258 = .ok (.iadd, 1) := by decide +kernel
theorem dX2_advance_259 : decode cX2_advance 259 = .ok (.bipush 48, 2) := by decide +kernel
theorem dX2_advance_261 : decode cX2_advance 261 = .ok (.isub, 1) := by decide +kernel
theorem dX2_advance_262 : decode cX2_advance 262 = .ok (.putfield 25, 3) := by decide +kernel
theorem dX2_advance_265 : decode cX2_advance 265 = .ok (.aload_n 0, 1) := by decide +kernel
theorem dX2_advance_266 : decode cX2_advance 266 = .ok (.dup, 1) := by decide +kernel
theorem dX2_advance_267 : decode cX2_advance 267 = .ok (.getfield 28, 3) := by decide +kernel
theorem dX2_advance_270 : decode cX2_advance 270 = .ok (.iconst 1, 1) := by decide +kernel
theorem dX2_advance_271 : decode cX2_advance 271 = .ok (.iadd, 1) := by decide +kernel
theorem dX2_advance_272 : decode cX2_advance 272 = .ok (.putfield 28, 3) := by decide +kernel
theorem dX2_advance_275 : decode cX2_advance 275 = .ok (.goto (-87), 3) := by decide +kernel
theorem dX2_advance_278 : decode cX2_advance 278 = .ok (.aload_n 0, 1) := by decide +kernel
theorem dX2_advance_279 : decode cX2_advance 279 = .ok (.aload_n 0, 1) := by decide +kernel
theorem dX2_advance_280 : decode cX2_advance 280 = .ok (.getfield 9, 3) := by decide +kernel
theorem dX2_advance_283 : decode cX2_advance 283 = .ok (.aload_n 0, 1) := by decide +kernel
theorem dX2_advance_284 : decode cX2_advance 284 = .ok (.getfield 22, 3) := by decide +kernel
theorem dX2_advance_287 : decode cX2_advance 287 = .ok (.baload, 1) := by decide +kernel
theorem dX2_advance_288 : decode cX2_advance 288 = .ok (.bipush 59, 2) := by decide +kernel
theorem dX2_advance_290 : decode cX2_advance 290 = .ok (.if_icmp .ne 7, 3) := by decide +kernel
theorem dX2_advance_293 : decode cX2_advance 293 = .ok (.iconst 3, 1) := by decide +kernel
theorem dX2_advance_294 : decode cX2_advance 294 = .ok (.goto 4, 3) := by decide +kernel
theorem dX2_advance_297 : decode cX2_advance 297 = .ok (.iconst 4, 1) := by decide +kernel
theorem dX2_advance_298 : decode cX2_advance 298 = .ok (.putfield 19, 3) := by decide +kernel
theorem dX2_advance_301 : decode cX2_advance 301 = .ok (.aload_n 0, 1) := by decide +kernel
theorem dX2_advance_302 : decode cX2_advance 302 = .ok (.dup, 1) := by decide +kernel
theorem dX2_advance_303 : decode cX2_advance 303 = .ok (.getfield 28, 3) := by decide +kernel
theorem dX2_advance_306 : decode cX2_advance 306 = .ok (.iconst 1, 1) := by decide +kernel
theorem dX2_advance_307 : decode cX2_advance 307 = .ok (.iadd, 1) := by decide +kernel
theorem dX2_advance_308 : decode cX2_advance 308 = .ok (.putfield 28, 3) := by decide +kernel
theorem dX2_advance_311 : decode cX2_advance 311 = .ok (.return_, 1) := by decide +kernel
theorem dX2_isWord_0 : decode cX2_isWord 0 = .ok (.aload_n 0, 1) := by decide +kernel
theorem dX2_isWord_1 : decode cX2_isWord 1 = .ok (.getfield 19, 3) := by decide +kernel
theorem dX2_isWord_4 : decode cX2_isWord 4 = .ok (.iconst 1, 1) := by decide +kernel
theorem dX2_isWord_5 : decode cX2_isWord 5 = .ok (.if_icmp .ne 19, 3) := by decide +kernel
theorem dX2_isWord_8 : decode cX2_isWord 8 = .ok (.aload_n 0, 1) := by decide +kernel
theorem dX2_isWord_9 : decode cX2_isWord 9 = .ok (.getfield 28, 3) := by decide +kernel
theorem dX2_isWord_12 : decode cX2_isWord 12 = .ok (.aload_n 0, 1) := by decide +kernel
theorem dX2_isWord_13 : decode cX2_isWord 13 = .ok (.getfield 22, 3) := by decide +kernel
theorem dX2_isWord_16 : decode cX2_isWord 16 = .ok (.isub, 1) := by decide +kernel
theorem dX2_isWord_17 : decode cX2_isWord 17 = .ok (.aload_n 1, 1) := by decide +kernel
theorem dX2_isWord_18 : decode cX2_isWord 18 = .ok (.invokevirtual 35, 3) := by decide +kernel
theorem dX2_isWord_21 : decode cX2_isWord 21 = .ok (.if_icmp .eq 5, 3) := by decide +kernel
theorem dX2_isWord_24 : decode cX2_isWord 24 = .ok (.iconst 0, 1) := by decide +kernel
theorem dX2_isWord_25 : decode cX2_isWord 25 = .ok (.ireturn, 1) := by decide +kernel
theorem dX2_isWord_26 : decode cX2_isWord 26 = .ok (.iconst 0, 1) := by decide +kernel
theorem dX2_isWord_27 : decode cX2_isWord 27 = .ok (.istore_n 2, 1) := by decide +kernel
theorem dX2_isWord_28 : decode cX2_isWord 28 = .ok (.iload_n 2, 1) := by decide +kernel
theorem dX2_isWord_29 : decode cX2_isWord 29 = .ok (.aload_n 1, 1) := by decide +kernel
theorem dX2_isWord_30 : decode cX2_isWord 30 = .ok (.invokevirtual 35, 3) := by decide +kernel
theorem dX2_isWord_33 : decode cX2_isWord 33 = .ok (.if_icmp .ge 30, 3) := by decide +kernel
theorem dX2_isWord_36 : decode cX2_isWord 36 = .ok (.aload_n 0, 1) := by decide +kernel
theorem dX2_isWord_37 : decode cX2_isWord 37 = .ok (.getfield 9, 3) := by decide +kernel
theorem dX2_isWord_40 : decode cX2_isWord 40 = .ok (.aload_n 0, 1) := by decide +kernel
theorem dX2_isWord_41 : decode cX2_isWord 41 = .ok (.getfield 22, 3) := by decide +kernel
theorem dX2_isWord_44 : decode cX2_isWord 44 = .ok (.iload_n 2, 1) := by decide +kernel
theorem dX2_isWord_45 : decode cX2_isWord 45 = .ok (.iadd, 1) := by decide +kernel
theorem dX2_isWord_46 : decode cX2_isWord 46 = .ok (.baload, 1) := by decide +kernel
theorem dX2_isWord_47 : decode cX2_isWord 47 = .ok (.aload_n 1, 1) := by decide +kernel
theorem dX2_isWord_48 : decode cX2_isWord 48 = .ok (.iload_n 2, 1) := by decide +kernel
theorem dX2_isWord_49 : decode cX2_isWord 49 = .ok (.invokevirtual 40, 3) := by decide +kernel
theorem dX2_isWord_52 : decode cX2_isWord 52 = .ok (.if_icmp .eq 5, 3) := by decide +kernel
theorem dX2_isWord_55 : decode cX2_isWord 55 = .ok (.iconst 0, 1) := by decide +kernel
theorem dX2_isWord_56 : decode cX2_isWord 56 = .ok (.ireturn, 1) := by decide +kernel
theorem dX2_isWord_57 : decode cX2_isWord 57 = .ok (.iinc 2 1, 3) := by decide +kernel
theorem dX2_isWord_60 : decode cX2_isWord 60 = .ok (.goto (-32), 3) := by decide +kernel
theorem dX2_isWord_63 : decode cX2_isWord 63 = .ok (.iconst 1, 1) := by decide +kernel
theorem dX2_isWord_64 : decode cX2_isWord 64 = .ok (.ireturn, 1) := by decide +kernel
theorem dX3_init_0 : decode cX3_init 0 = .ok (.aload_n 0, 1) := by decide +kernel
theorem dX3_init_1 : decode cX3_init 1 = .ok (.invokespecial 3, 3) := by decide +kernel
theorem dX3_init_4 : decode cX3_init 4 = .ok (.aload_n 0, 1) := by decide +kernel
theorem dX3_init_5 : decode cX3_init 5 = .ok (.new 9, 3) := by decide +kernel
theorem dX3_init_8 : decode cX3_init 8 = .ok (.dup, 1) := by decide +kernel
theorem dX3_init_9 : decode cX3_init 9 = .ok (.invokespecial 11, 3) := by decide +kernel
theorem dX3_init_12 : decode cX3_init 12 = .ok (.putfield 12, 3) := by decide +kernel
theorem dX3_init_15 : decode cX3_init 15 = .ok (.return_, 1) := by decide +kernel
theorem dX3_readInto_0 : decode cX3_readInto 0 = .ok (.aload_n 0, 1) := by decide +kernel
theorem dX3_readInto_1 : decode cX3_readInto 1 = .ok (.getfield 12, 3) := by decide +kernel
theorem dX3_readInto_4 : decode cX3_readInto 4 = .ok (.invokevirtual 18, 3) := by decide +kernel
theorem dX3_readInto_7 : decode cX3_readInto 7 = .ok (.iconst 1, 1) := by decide +kernel
theorem dX3_readInto_8 : decode cX3_readInto 8 = .ok (.istore_n 2, 1) := by decide +kernel
theorem dX3_readInto_9 : decode cX3_readInto 9 = .ok (.iload_n 2, 1) := by decide +kernel
theorem dX3_readInto_10 : decode cX3_readInto 10 = .ok (.bipush 120, 2) := by decide +kernel
theorem dX3_readInto_12 : decode cX3_readInto 12 = .ok (.if_icmp .gt 53, 3) := by decide +kernel
theorem dX3_readInto_15 : decode cX3_readInto 15 = .ok (.aload_n 0, 1) := by decide +kernel
theorem dX3_readInto_16 : decode cX3_readInto 16 = .ok (.aload_n 1, 1) := by decide +kernel
theorem dX3_readInto_17 : decode cX3_readInto 17 = .ok (.invokevirtual 21, 3) := by decide +kernel
theorem dX3_readInto_20 : decode cX3_readInto 20 = .ok (.ifCond .ne 6, 3) := by decide +kernel
theorem dX3_readInto_23 : decode cX3_readInto 23 = .ok (.goto 42, 3) := by decide +kernel
theorem dX3_readInto_26 : decode cX3_readInto 26 = .ok (.aload_n 0, 1) := by decide +kernel
theorem dX3_readInto_27 : decode cX3_readInto 27 = .ok (.getfield 12, 3) := by decide +kernel
theorem dX3_readInto_30 : decode cX3_readInto 30 = .ok (.getfield 25, 3) := by decide +kernel
theorem dX3_readInto_33 : decode cX3_readInto 33 = .ok (.ifCond .ne 5, 3) := by decide +kernel
theorem dX3_readInto_36 : decode cX3_readInto 36 = .ok (.iload_n 2, 1) := by decide +kernel
theorem dX3_readInto_37 : decode cX3_readInto 37 = .ok (.ireturn, 1) := by decide +kernel
theorem dX3_readInto_38 : decode cX3_readInto 38 = .ok (.aload_n 0, 1) := by decide +kernel
theorem dX3_readInto_39 : decode cX3_readInto 39 = .ok (.getfield 12, 3) := by decide +kernel
theorem dX3_readInto_42 : decode cX3_readInto 42 = .ok (.getfield 25, 3) := by decide +kernel
theorem dX3_readInto_45 : decode cX3_readInto 45 = .ok (.iconst 3, 1) := by decide +kernel
theorem dX3_readInto_46 : decode cX3_readInto 46 = .ok (.if_icmp .eq 6, 3) := by decide +kernel
theorem dX3_readInto_49 : decode cX3_readInto 49 = .ok (.goto 16, 3) := by decide +kernel
theorem dX3_readInto_52 : decode cX3_readInto 52 = .ok (.aload_n 0, 1) := by decide +kernel
theorem dX3_readInto_53 : decode cX3_readInto 53 = .ok (.getfield 12, 3) := by decide +kernel
theorem dX3_readInto_56 : decode cX3_readInto 56 = .ok (.invokevirtual 29, 3) := by decide +kernel
theorem dX3_readInto_59 : decode cX3_readInto 59 = .ok (.iinc 2 1, 3) := by decide +kernel
theorem dX3_readInto_62 : decode cX3_readInto 62 = .ok (.goto (-53), 3) := by decide +kernel
theorem dX3_readInto_65 : decode cX3_readInto 65 = .ok (.iconst (-1), 1) := by decide +kernel
theorem dX3_readInto_66 : decode cX3_readInto 66 = .ok (.aload_n 0, 1) := by decide +kernel
theorem dX3_readInto_67 : decode cX3_readInto 67 = .ok (.getfield 12, 3) := by decide +kernel
theorem dX3_readInto_70 : decode cX3_readInto 70 = .ok (.getfield 32, 3) := by decide +kernel
theorem dX3_readInto_73 : decode cX3_readInto 73 = .ok (.isub, 1) := by decide +kernel
theorem dX3_readInto_74 : decode cX3_readInto 74 = .ok (.ireturn, 1) := by decide +kernel
theorem dX3_readItem_0 : decode cX3_readItem 0 = .ok (.aload_n 0, 1) := by decide +kernel
theorem dX3_readItem_1 : decode cX3_readItem 1 = .ok (.getfield 12, 3) := by decide +kernel
theorem dX3_readItem_4 : decode cX3_readItem 4 = .ok (.ldc 35, 2) := by decide +kernel
theorem dX3_readItem_6 : decode cX3_readItem 6 = .ok (.invokevirtual 37, 3) := by decide +kernel
theorem dX3_readItem_9 : decode cX3_readItem 9 = .ok (.ifCond .eq 9, 3) := by decide +kernel
theorem dX3_readItem_12 : decode cX3_readItem 12 = .ok (.aload_n 0, 1) := by decide +kernel
theorem dX3_readItem_13 : decode cX3_readItem 13 = .ok (.aload_n 1, 1) := by decide +kernel
theorem dX3_readItem_14 : decode cX3_readItem 14 = .ok (.invokevirtual 41, 3) := by decide +kernel
theorem dX3_readItem_17 : decode cX3_readItem 17 = .ok (.ireturn, 1) := by decide +kernel
theorem dX3_readItem_18 : decode cX3_readItem 18 = .ok (.aload_n 0, 1) := by decide +kernel
theorem dX3_readItem_19 : decode cX3_readItem 19 = .ok (.getfield 12, 3) := by decide +kernel
theorem dX3_readItem_22 : decode cX3_readItem 22 = .ok (.ldc 44, 2) := by decide +kernel
theorem dX3_readItem_24 : decode cX3_readItem 24 = .ok (.invokevirtual 37, 3) := by decide +kernel
theorem dX3_readItem_27 : decode cX3_readItem 27 = .ok (.ifCond .eq 9, 3) := by decide +kernel
theorem dX3_readItem_30 : decode cX3_readItem 30 = .ok (.aload_n 0, 1) := by decide +kernel
theorem dX3_readItem_31 : decode cX3_readItem 31 = .ok (.aload_n 1, 1) := by decide +kernel
theorem dX3_readItem_32 : decode cX3_readItem 32 = .ok (.invokevirtual 46, 3) := by decide +kernel
theorem dX3_readItem_35 : decode cX3_readItem 35 = .ok (.ireturn, 1) := by decide +kernel
theorem dX3_readItem_36 : decode cX3_readItem 36 = .ok (.aload_n 0, 1) := by decide +kernel
theorem dX3_readItem_37 : decode cX3_readItem 37 = .ok (.invokevirtual 49, 3) := by decide +kernel
theorem dX3_readItem_40 : decode cX3_readItem 40 = .ok (.istore_n 2, 1) := by decide +kernel
theorem dX3_readItem_41 : decode cX3_readItem 41 = .ok (.iload_n 2, 1) := by decide +kernel
theorem dX3_readItem_42 : decode cX3_readItem 42 = .ok (.ifCond .lt 10, 3) := by decide +kernel
theorem dX3_readItem_45 : decode cX3_readItem 45 = .ok (.aload_n 0, 1) := by decide +kernel
theorem dX3_readItem_46 : decode cX3_readItem 46 = .ok (.aload_n 1, 1) := by decide +kernel
theorem dX3_readItem_47 : decode cX3_readItem 47 = .ok (.iload_n 2, 1) := by decide +kernel
theorem dX3_readItem_48 : decode cX3_readItem 48 = .ok (.invokevirtual 53, 3) := by decide +kernel
theorem dX3_readItem_51 : decode cX3_readItem 51 = .ok (.ireturn, 1) := by decide +kernel
theorem dX3_readItem_52 : decode cX3_readItem 52 = .ok (.aload_n 0, 1) := by decide +kernel
theorem dX3_readItem_53 : decode cX3_readItem 53 = .ok (.invokevirtual 57, 3) := by decide +kernel
theorem dX3_readItem_56 : decode cX3_readItem 56 = .ok (.istore_n 3, 1) := by decide +kernel
theorem dX3_readItem_57 : decode cX3_readItem 57 = .ok (.iload_n 3, 1) := by decide +kernel
theorem dX3_readItem_58 : decode cX3_readItem 58 = .ok (.ifCond .lt 16, 3) := by decide +kernel
theorem dX3_readItem_61 : decode cX3_readItem 61 = .ok (.aload_n 0, 1) := by decide +kernel
theorem dX3_readItem_62 : decode cX3_readItem 62 = .ok (.aload_n 1, 1) := by decide +kernel
theorem dX3_readItem_63 : decode cX3_readItem 63 = .ok (.iload_n 3, 1) := by decide +kernel
theorem dX3_readItem_64 : decode cX3_readItem 64 = .ok (.invokevirtual 60, 3) := by decide +kernel
theorem dX3_readItem_67 : decode cX3_readItem 67 = .ok (.ifCond .eq 7, 3) := by decide +kernel
theorem dX3_readItem_70 : decode cX3_readItem 70 = .ok (.iconst 1, 1) := by decide +kernel
theorem dX3_readItem_71 : decode cX3_readItem 71 = .ok (.goto 4, 3) := by decide +kernel
theorem dX3_readItem_74 : decode cX3_readItem 74 = .ok (.iconst 0, 1) := by decide +kernel
theorem dX3_readItem_75 : decode cX3_readItem 75 = .ok (.ireturn, 1) := by decide +kernel
theorem dX3_kindNamed_0 : decode cX3_kindNamed 0 = .ok (.aload_n 0, 1) := by decide +kernel
theorem dX3_kindNamed_1 : decode cX3_kindNamed 1 = .ok (.getfield 12, 3) := by decide +kernel
theorem dX3_kindNamed_4 : decode cX3_kindNamed 4 = .ok (.ldc 63, 2) := by decide +kernel
theorem dX3_kindNamed_6 : decode cX3_kindNamed 6 = .ok (.invokevirtual 37, 3) := by decide +kernel
theorem dX3_kindNamed_9 : decode cX3_kindNamed 9 = .ok (.ifCond .eq 5, 3) := by decide +kernel
theorem dX3_kindNamed_12 : decode cX3_kindNamed 12 = .ok (.iconst 0, 1) := by decide +kernel
theorem dX3_kindNamed_13 : decode cX3_kindNamed 13 = .ok (.ireturn, 1) := by decide +kernel
theorem dX3_kindNamed_14 : decode cX3_kindNamed 14 = .ok (.aload_n 0, 1) := by decide +kernel
theorem dX3_kindNamed_15 : decode cX3_kindNamed 15 = .ok (.getfield 12, 3) := by decide +kernel
theorem dX3_kindNamed_18 : decode cX3_kindNamed 18 = .ok (.ldc 65, 2) := by decide +kernel
theorem dX3_kindNamed_20 : decode cX3_kindNamed 20 = .ok (.invokevirtual 37, 3) := by decide +kernel
theorem dX3_kindNamed_23 : decode cX3_kindNamed 23 = .ok (.ifCond .eq 5, 3) := by decide +kernel
theorem dX3_kindNamed_26 : decode cX3_kindNamed 26 = .ok (.iconst 1, 1) := by decide +kernel
theorem dX3_kindNamed_27 : decode cX3_kindNamed 27 = .ok (.ireturn, 1) := by decide +kernel
theorem dX3_kindNamed_28 : decode cX3_kindNamed 28 = .ok (.aload_n 0, 1) := by decide +kernel
theorem dX3_kindNamed_29 : decode cX3_kindNamed 29 = .ok (.getfield 12, 3) := by decide +kernel
theorem dX3_kindNamed_32 : decode cX3_kindNamed 32 = .ok (.ldc 67, 2) := by decide +kernel
theorem dX3_kindNamed_34 : decode cX3_kindNamed 34 = .ok (.invokevirtual 37, 3) := by decide +kernel
theorem dX3_kindNamed_37 : decode cX3_kindNamed 37 = .ok (.ifCond .eq 5, 3) := by decide +kernel
theorem dX3_kindNamed_40 : decode cX3_kindNamed 40 = .ok (.iconst 2, 1) := by decide +kernel
theorem dX3_kindNamed_41 : decode cX3_kindNamed 41 = .ok (.ireturn, 1) := by decide +kernel
theorem dX3_kindNamed_42 : decode cX3_kindNamed 42 = .ok (.aload_n 0, 1) := by decide +kernel
theorem dX3_kindNamed_43 : decode cX3_kindNamed 43 = .ok (.getfield 12, 3) := by decide +kernel
theorem dX3_kindNamed_46 : decode cX3_kindNamed 46 = .ok (.ldc 69, 2) := by decide +kernel
theorem dX3_kindNamed_48 : decode cX3_kindNamed 48 = .ok (.invokevirtual 37, 3) := by decide +kernel
theorem dX3_kindNamed_51 : decode cX3_kindNamed 51 = .ok (.ifCond .eq 5, 3) := by decide +kernel
theorem dX3_kindNamed_54 : decode cX3_kindNamed 54 = .ok (.iconst 3, 1) := by decide +kernel
theorem dX3_kindNamed_55 : decode cX3_kindNamed 55 = .ok (.ireturn, 1) := by decide +kernel
theorem dX3_kindNamed_56 : decode cX3_kindNamed 56 = .ok (.aload_n 0, 1) := by decide +kernel
theorem dX3_kindNamed_57 : decode cX3_kindNamed 57 = .ok (.getfield 12, 3) := by decide +kernel
theorem dX3_kindNamed_60 : decode cX3_kindNamed 60 = .ok (.ldc 71, 2) := by decide +kernel
theorem dX3_kindNamed_62 : decode cX3_kindNamed 62 = .ok (.invokevirtual 37, 3) := by decide +kernel
theorem dX3_kindNamed_65 : decode cX3_kindNamed 65 = .ok (.ifCond .eq 5, 3) := by decide +kernel
theorem dX3_kindNamed_68 : decode cX3_kindNamed 68 = .ok (.iconst 4, 1) := by decide +kernel
theorem dX3_kindNamed_69 : decode cX3_kindNamed 69 = .ok (.ireturn, 1) := by decide +kernel
theorem dX3_kindNamed_70 : decode cX3_kindNamed 70 = .ok (.aload_n 0, 1) := by decide +kernel
theorem dX3_kindNamed_71 : decode cX3_kindNamed 71 = .ok (.getfield 12, 3) := by decide +kernel
theorem dX3_kindNamed_74 : decode cX3_kindNamed 74 = .ok (.ldc 73, 2) := by decide +kernel
theorem dX3_kindNamed_76 : decode cX3_kindNamed 76 = .ok (.invokevirtual 37, 3) := by decide +kernel
theorem dX3_kindNamed_79 : decode cX3_kindNamed 79 = .ok (.ifCond .eq 5, 3) := by decide +kernel
theorem dX3_kindNamed_82 : decode cX3_kindNamed 82 = .ok (.iconst 5, 1) := by decide +kernel
theorem dX3_kindNamed_83 : decode cX3_kindNamed 83 = .ok (.ireturn, 1) := by decide +kernel
theorem dX3_kindNamed_84 : decode cX3_kindNamed 84 = .ok (.aload_n 0, 1) := by decide +kernel
theorem dX3_kindNamed_85 : decode cX3_kindNamed 85 = .ok (.getfield 12, 3) := by decide +kernel
theorem dX3_kindNamed_88 : decode cX3_kindNamed 88 = .ok (.ldc 75, 2) := by decide +kernel
theorem dX3_kindNamed_90 : decode cX3_kindNamed 90 = .ok (.invokevirtual 37, 3) := by decide +kernel
theorem dX3_kindNamed_93 : decode cX3_kindNamed 93 = .ok (.ifCond .eq 8, 3) := by decide +kernel
theorem dX3_kindNamed_96 : decode cX3_kindNamed 96 = .ok (.bipush 6, 2) := by decide +kernel
theorem dX3_kindNamed_98 : decode cX3_kindNamed 98 = .ok (.goto 4, 3) := by decide +kernel
theorem dX3_kindNamed_101 : decode cX3_kindNamed 101 = .ok (.iconst (-1), 1) := by decide +kernel
theorem dX3_kindNamed_102 : decode cX3_kindNamed 102 = .ok (.ireturn, 1) := by decide +kernel
theorem dX3_settingNamed_0 : decode cX3_settingNamed 0 = .ok (.aload_n 0, 1) := by decide +kernel
theorem dX3_settingNamed_1 : decode cX3_settingNamed 1 = .ok (.getfield 12, 3) := by decide +kernel
theorem dX3_settingNamed_4 : decode cX3_settingNamed 4 = .ok (.ldc 77, 2) := by decide +kernel
theorem dX3_settingNamed_6 : decode cX3_settingNamed 6 = .ok (.invokevirtual 37, 3) := by decide +kernel
theorem dX3_settingNamed_9 : decode cX3_settingNamed 9 = .ok (.ifCond .eq 5, 3) := by decide +kernel
theorem dX3_settingNamed_12 : decode cX3_settingNamed 12 = .ok (.iconst 0, 1) := by decide +kernel
theorem dX3_settingNamed_13 : decode cX3_settingNamed 13 = .ok (.ireturn, 1) := by decide +kernel
theorem dX3_settingNamed_14 : decode cX3_settingNamed 14 = .ok (.aload_n 0, 1) := by decide +kernel
theorem dX3_settingNamed_15 : decode cX3_settingNamed 15 = .ok (.getfield 12, 3) := by decide +kernel
theorem dX3_settingNamed_18 : decode cX3_settingNamed 18 = .ok (.ldc 79, 2) := by decide +kernel
theorem dX3_settingNamed_20 : decode cX3_settingNamed 20 = .ok (.invokevirtual 37, 3) := by decide +kernel
theorem dX3_settingNamed_23 : decode cX3_settingNamed 23 = .ok (.ifCond .eq 5, 3) := by decide +kernel
theorem dX3_settingNamed_26 : decode cX3_settingNamed 26 = .ok (.iconst 1, 1) := by decide +kernel
theorem dX3_settingNamed_27 : decode cX3_settingNamed 27 = .ok (.ireturn, 1) := by decide +kernel
theorem dX3_settingNamed_28 : decode cX3_settingNamed 28 = .ok (.aload_n 0, 1) := by decide +kernel
theorem dX3_settingNamed_29 : decode cX3_settingNamed 29 = .ok (.getfield 12, 3) := by decide +kernel
theorem dX3_settingNamed_32 : decode cX3_settingNamed 32 = .ok (.ldc 81, 2) := by decide +kernel
theorem dX3_settingNamed_34 : decode cX3_settingNamed 34 = .ok (.invokevirtual 37, 3) := by decide +kernel
theorem dX3_settingNamed_37 : decode cX3_settingNamed 37 = .ok (.ifCond .eq 5, 3) := by decide +kernel
theorem dX3_settingNamed_40 : decode cX3_settingNamed 40 = .ok (.iconst 2, 1) := by decide +kernel
theorem dX3_settingNamed_41 : decode cX3_settingNamed 41 = .ok (.ireturn, 1) := by decide +kernel
theorem dX3_settingNamed_42 : decode cX3_settingNamed 42 = .ok (.aload_n 0, 1) := by decide +kernel
theorem dX3_settingNamed_43 : decode cX3_settingNamed 43 = .ok (.getfield 12, 3) := by decide +kernel
theorem dX3_settingNamed_46 : decode cX3_settingNamed 46 = .ok (.ldc 83, 2) := by decide +kernel
theorem dX3_settingNamed_48 : decode cX3_settingNamed 48 = .ok (.invokevirtual 37, 3) := by decide +kernel
theorem dX3_settingNamed_51 : decode cX3_settingNamed 51 = .ok (.ifCond .eq 7, 3) := by decide +kernel
theorem dX3_settingNamed_54 : decode cX3_settingNamed 54 = .ok (.iconst 3, 1) := by decide +kernel
theorem dX3_settingNamed_55 : decode cX3_settingNamed 55 = .ok (.goto 4, 3) := by decide +kernel
theorem dX3_settingNamed_58 : decode cX3_settingNamed 58 = .ok (.iconst (-1), 1) := by decide +kernel
theorem dX3_settingNamed_59 : decode cX3_settingNamed 59 = .ok (.ireturn, 1) := by decide +kernel
theorem dX3_readStar_0 : decode cX3_readStar 0 = .ok (.aload_n 1, 1) := by decide +kernel
theorem dX3_readStar_1 : decode cX3_readStar 1 = .ok (.getfield 85, 3) := by decide +kernel
theorem dX3_readStar_4 : decode cX3_readStar 4 = .ok (.bipush 10, 2) := by decide +kernel
theorem dX3_readStar_6 : decode cX3_readStar 6 = .ok (.if_icmp .lt 5, 3) := by decide +kernel
theorem dX3_readStar_9 : decode cX3_readStar 9 = .ok (.iconst 0, 1) := by decide +kernel
theorem dX3_readStar_10 : decode cX3_readStar 10 = .ok (.ireturn, 1) := by decide +kernel
theorem dX3_readStar_11 : decode cX3_readStar 11 = .ok (.aload_n 0, 1) := by decide +kernel
theorem dX3_readStar_12 : decode cX3_readStar 12 = .ok (.getfield 12, 3) := by decide +kernel
theorem dX3_readStar_15 : decode cX3_readStar 15 = .ok (.invokevirtual 29, 3) := by decide +kernel
theorem dX3_readStar_18 : decode cX3_readStar 18 = .ok (.aload_n 0, 1) := by decide +kernel
theorem dX3_readStar_19 : decode cX3_readStar 19 = .ok (.ldc 90, 2) := by decide +kernel
theorem dX3_readStar_21 : decode cX3_readStar 21 = .ok (.bipush 99, 2) := by decide +kernel
theorem dX3_readStar_23 : decode cX3_readStar 23 = .ok (.iconst 0, 1) := by decide +kernel
theorem dX3_readStar_24 : decode cX3_readStar 24 = .ok (.invokevirtual 92, 3) := by decide +kernel
theorem dX3_readStar_27 : decode cX3_readStar 27 = .ok (.istore_n 3, 1) := by decide +kernel
theorem dX3_readStar_28 : decode cX3_readStar 28 = .ok (.iload_n 3, 1) := by decide +kernel
theorem dX3_readStar_29 : decode cX3_readStar 29 = .ok (.iconst (-1), 1) := by decide +kernel
theorem dX3_readStar_30 : decode cX3_readStar 30 = .ok (.if_icmp .ne 5, 3) := by decide +kernel
theorem dX3_readStar_33 : decode cX3_readStar 33 = .ok (.iconst 0, 1) := by decide +kernel
theorem dX3_readStar_34 : decode cX3_readStar 34 = .ok (.ireturn, 1) := by decide +kernel
theorem dX3_readStar_35 : decode cX3_readStar 35 = .ok (.aload_n 0, 1) := by decide +kernel
theorem dX3_readStar_36 : decode cX3_readStar 36 = .ok (.ldc 96, 2) := by decide +kernel
theorem dX3_readStar_38 : decode cX3_readStar 38 = .ok (.bipush 99, 2) := by decide +kernel
theorem dX3_readStar_40 : decode cX3_readStar 40 = .ok (.bipush 50, 2) := by decide +kernel
theorem dX3_readStar_42 : decode cX3_readStar 42 = .ok (.invokevirtual 92, 3) := by decide +kernel
theorem dX3_readStar_45 : decode cX3_readStar 45 = .ok (.istore 4, 2) := by decide +kernel
theorem dX3_readStar_47 : decode cX3_readStar 47 = .ok (.iload 4, 2) := by decide +kernel
theorem dX3_readStar_49 : decode cX3_readStar 49 = .ok (.iconst (-1), 1) := by decide +kernel
theorem dX3_readStar_50 : decode cX3_readStar 50 = .ok (.if_icmp .ne 5, 3) := by decide +kernel
theorem dX3_readStar_53 : decode cX3_readStar 53 = .ok (.iconst 0, 1) := by decide +kernel
theorem dX3_readStar_54 : decode cX3_readStar 54 = .ok (.ireturn, 1) := by decide +kernel
theorem dX3_readStar_55 : decode cX3_readStar 55 = .ok (.aload_n 0, 1) := by decide +kernel
theorem dX3_readStar_56 : decode cX3_readStar 56 = .ok (.ldc 98, 2) := by decide +kernel
theorem dX3_readStar_58 : decode cX3_readStar 58 = .ok (.bipush 99, 2) := by decide +kernel
theorem dX3_readStar_60 : decode cX3_readStar 60 = .ok (.iconst 1, 1) := by decide +kernel
theorem dX3_readStar_61 : decode cX3_readStar 61 = .ok (.invokevirtual 92, 3) := by decide +kernel
theorem dX3_readStar_64 : decode cX3_readStar 64 = .ok (.istore 5, 2) := by decide +kernel
theorem dX3_readStar_66 : decode cX3_readStar 66 = .ok (.iload 5, 2) := by decide +kernel
theorem dX3_readStar_68 : decode cX3_readStar 68 = .ok (.iconst (-1), 1) := by decide +kernel
theorem dX3_readStar_69 : decode cX3_readStar 69 = .ok (.if_icmp .ne 5, 3) := by decide +kernel
theorem dX3_readStar_72 : decode cX3_readStar 72 = .ok (.iconst 0, 1) := by decide +kernel
theorem dX3_readStar_73 : decode cX3_readStar 73 = .ok (.ireturn, 1) := by decide +kernel
theorem dX3_readStar_74 : decode cX3_readStar 74 = .ok (.aload_n 1, 1) := by decide +kernel
theorem dX3_readStar_75 : decode cX3_readStar 75 = .ok (.iload_n 2, 1) := by decide +kernel
theorem dX3_readStar_76 : decode cX3_readStar 76 = .ok (.iload_n 3, 1) := by decide +kernel
theorem dX3_readStar_77 : decode cX3_readStar 77 = .ok (.iload 4, 2) := by decide +kernel
theorem dX3_readStar_79 : decode cX3_readStar 79 = .ok (.iload 5, 2) := by decide +kernel
theorem dX3_readStar_81 : decode cX3_readStar 81 = .ok (.invokevirtual 100, 3) := by decide +kernel
theorem dX3_readStar_84 : decode cX3_readStar 84 = .ok (.pop, 1) := by decide +kernel
theorem dX3_readStar_85 : decode cX3_readStar 85 = .ok (.iconst 1, 1) := by decide +kernel
theorem dX3_readStar_86 : decode cX3_readStar 86 = .ok (.ireturn, 1) := by decide +kernel
theorem dX3_readCrew_0 : decode cX3_readCrew 0 = .ok (.aload_n 0, 1) := by decide +kernel
theorem dX3_readCrew_1 : decode cX3_readCrew 1 = .ok (.getfield 12, 3) := by decide +kernel
theorem dX3_readCrew_4 : decode cX3_readCrew 4 = .ok (.invokevirtual 29, 3) := by decide +kernel
theorem dX3_readCrew_7 : decode cX3_readCrew 7 = .ok (.aload_n 0, 1) := by decide +kernel
theorem dX3_readCrew_8 : decode cX3_readCrew 8 = .ok (.iconst 0, 1) := by decide +kernel
theorem dX3_readCrew_9 : decode cX3_readCrew 9 = .ok (.iconst 3, 1) := by decide +kernel
theorem dX3_readCrew_10 : decode cX3_readCrew 10 = .ok (.invokevirtual 104, 3) := by decide +kernel
theorem dX3_readCrew_13 : decode cX3_readCrew 13 = .ok (.istore_n 2, 1) := by decide +kernel
theorem dX3_readCrew_14 : decode cX3_readCrew 14 = .ok (.iload_n 2, 1) := by decide +kernel
theorem dX3_readCrew_15 : decode cX3_readCrew 15 = .ok (.iconst (-1), 1) := by decide +kernel
theorem dX3_readCrew_16 : decode cX3_readCrew 16 = .ok (.if_icmp .ne 5, 3) := by decide +kernel
theorem dX3_readCrew_19 : decode cX3_readCrew 19 = .ok (.iconst 0, 1) := by decide +kernel
theorem dX3_readCrew_20 : decode cX3_readCrew 20 = .ok (.ireturn, 1) := by decide +kernel
theorem dX3_readCrew_21 : decode cX3_readCrew 21 = .ok (.aload_n 0, 1) := by decide +kernel
theorem dX3_readCrew_22 : decode cX3_readCrew 22 = .ok (.ldc 90, 2) := by decide +kernel
theorem dX3_readCrew_24 : decode cX3_readCrew 24 = .ok (.bipush 99, 2) := by decide +kernel
theorem dX3_readCrew_26 : decode cX3_readCrew 26 = .ok (.aload_n 1, 1) := by decide +kernel
theorem dX3_readCrew_27 : decode cX3_readCrew 27 = .ok (.getfield 108, 3) := by decide +kernel
theorem dX3_readCrew_30 : decode cX3_readCrew 30 = .ok (.iload_n 2, 1) := by decide +kernel
theorem dX3_readCrew_31 : decode cX3_readCrew 31 = .ok (.iaload, 1) := by decide +kernel
theorem dX3_readCrew_32 : decode cX3_readCrew 32 = .ok (.invokevirtual 92, 3) := by decide +kernel
theorem dX3_readCrew_35 : decode cX3_readCrew 35 = .ok (.istore_n 3, 1) := by decide +kernel
theorem dX3_readCrew_36 : decode cX3_readCrew 36 = .ok (.iload_n 3, 1) := by decide +kernel
theorem dX3_readCrew_37 : decode cX3_readCrew 37 = .ok (.iconst (-1), 1) := by decide +kernel
theorem dX3_readCrew_38 : decode cX3_readCrew 38 = .ok (.if_icmp .ne 5, 3) := by decide +kernel
theorem dX3_readCrew_41 : decode cX3_readCrew 41 = .ok (.iconst 0, 1) := by decide +kernel
theorem dX3_readCrew_42 : decode cX3_readCrew 42 = .ok (.ireturn, 1) := by decide +kernel
theorem dX3_readCrew_43 : decode cX3_readCrew 43 = .ok (.aload_n 0, 1) := by decide +kernel
theorem dX3_readCrew_44 : decode cX3_readCrew 44 = .ok (.ldc 112, 2) := by decide +kernel
theorem dX3_readCrew_46 : decode cX3_readCrew 46 = .ok (.sipush 999, 3) := by decide +kernel
theorem dX3_readCrew_49 : decode cX3_readCrew 49 = .ok (.aload_n 1, 1) := by decide +kernel
theorem dX3_readCrew_50 : decode cX3_readCrew 50 = .ok (.getfield 114, 3) := by decide +kernel
theorem dX3_readCrew_53 : decode cX3_readCrew 53 = .ok (.iload_n 2, 1) := by decide +kernel
theorem dX3_readCrew_54 : decode cX3_readCrew 54 = .ok (.iaload, 1) := by decide +kernel
theorem dX3_readCrew_55 : decode cX3_readCrew 55 = .ok (.invokevirtual 92, 3) := by decide +kernel
theorem dX3_readCrew_58 : decode cX3_readCrew 58 = .ok (.istore 4, 2) := by decide +kernel
theorem dX3_readCrew_60 : decode cX3_readCrew 60 = .ok (.iload 4, 2) := by decide +kernel
theorem dX3_readCrew_62 : decode cX3_readCrew 62 = .ok (.iconst (-1), 1) := by decide +kernel
theorem dX3_readCrew_63 : decode cX3_readCrew 63 = .ok (.if_icmp .ne 5, 3) := by decide +kernel
theorem dX3_readCrew_66 : decode cX3_readCrew 66 = .ok (.iconst 0, 1) := by decide +kernel
theorem dX3_readCrew_67 : decode cX3_readCrew 67 = .ok (.ireturn, 1) := by decide +kernel
theorem dX3_readCrew_68 : decode cX3_readCrew 68 = .ok (.aload_n 1, 1) := by decide +kernel
theorem dX3_readCrew_69 : decode cX3_readCrew 69 = .ok (.getfield 108, 3) := by decide +kernel
theorem dX3_readCrew_72 : decode cX3_readCrew 72 = .ok (.iload_n 2, 1) := by decide +kernel
theorem dX3_readCrew_73 : decode cX3_readCrew 73 = .ok (.iload_n 3, 1) := by decide +kernel
theorem dX3_readCrew_74 : decode cX3_readCrew 74 = .ok (.iastore, 1) := by decide +kernel
theorem dX3_readCrew_75 : decode cX3_readCrew 75 = .ok (.aload_n 1, 1) := by decide +kernel
theorem dX3_readCrew_76 : decode cX3_readCrew 76 = .ok (.getfield 114, 3) := by decide +kernel
theorem dX3_readCrew_79 : decode cX3_readCrew 79 = .ok (.iload_n 2, 1) := by decide +kernel
theorem dX3_readCrew_80 : decode cX3_readCrew 80 = .ok (.iload 4, 2) := by decide +kernel
theorem dX3_readCrew_82 : decode cX3_readCrew 82 = .ok (.iastore, 1) := by decide +kernel
theorem dX3_readCrew_83 : decode cX3_readCrew 83 = .ok (.iconst 1, 1) := by decide +kernel
theorem dX3_readCrew_84 : decode cX3_readCrew 84 = .ok (.ireturn, 1) := by decide +kernel
theorem dX3_readSign_0 : decode cX3_readSign 0 = .ok (.aload_n 1, 1) := by decide +kernel
theorem dX3_readSign_1 : decode cX3_readSign 1 = .ok (.getfield 117, 3) := by decide +kernel
theorem dX3_readSign_4 : decode cX3_readSign 4 = .ok (.bipush 6, 2) := by decide +kernel
theorem dX3_readSign_6 : decode cX3_readSign 6 = .ok (.if_icmp .lt 5, 3) := by decide +kernel
theorem dX3_readSign_9 : decode cX3_readSign 9 = .ok (.iconst 0, 1) := by decide +kernel
theorem dX3_readSign_10 : decode cX3_readSign 10 = .ok (.ireturn, 1) := by decide +kernel
theorem dX3_readSign_11 : decode cX3_readSign 11 = .ok (.aload_n 0, 1) := by decide +kernel
theorem dX3_readSign_12 : decode cX3_readSign 12 = .ok (.getfield 12, 3) := by decide +kernel
theorem dX3_readSign_15 : decode cX3_readSign 15 = .ok (.invokevirtual 29, 3) := by decide +kernel
theorem dX3_readSign_18 : decode cX3_readSign 18 = .ok (.aload_n 0, 1) := by decide +kernel
theorem dX3_readSign_19 : decode cX3_readSign 19 = .ok (.iconst 1, 1) := by decide +kernel
theorem dX3_readSign_20 : decode cX3_readSign 20 = .ok (.iconst 1, 1) := by decide +kernel
theorem dX3_readSign_21 : decode cX3_readSign 21 = .ok (.aload_n 1, 1) := by decide +kernel
theorem dX3_readSign_22 : decode cX3_readSign 22 = .ok (.getfield 85, 3) := by decide +kernel
theorem dX3_readSign_25 : decode cX3_readSign 25 = .ok (.ishl, 1) := by decide +kernel
theorem dX3_readSign_26 : decode cX3_readSign 26 = .ok (.iconst 1, 1) := by decide +kernel
theorem dX3_readSign_27 : decode cX3_readSign 27 = .ok (.isub, 1) := by decide +kernel
theorem dX3_readSign_28 : decode cX3_readSign 28 = .ok (.invokevirtual 104, 3) := by decide +kernel
theorem dX3_readSign_31 : decode cX3_readSign 31 = .ok (.istore_n 2, 1) := by decide +kernel
theorem dX3_readSign_32 : decode cX3_readSign 32 = .ok (.iload_n 2, 1) := by decide +kernel
theorem dX3_readSign_33 : decode cX3_readSign 33 = .ok (.iconst (-1), 1) := by decide +kernel
theorem dX3_readSign_34 : decode cX3_readSign 34 = .ok (.if_icmp .ne 5, 3) := by decide +kernel
theorem dX3_readSign_37 : decode cX3_readSign 37 = .ok (.iconst 0, 1) := by decide +kernel
theorem dX3_readSign_38 : decode cX3_readSign 38 = .ok (.ireturn, 1) := by decide +kernel
theorem dX3_readSign_39 : decode cX3_readSign 39 = .ok (.aload_n 1, 1) := by decide +kernel
theorem dX3_readSign_40 : decode cX3_readSign 40 = .ok (.iload_n 2, 1) := by decide +kernel
theorem dX3_readSign_41 : decode cX3_readSign 41 = .ok (.invokevirtual 120, 3) := by decide +kernel
theorem dX3_readSign_44 : decode cX3_readSign 44 = .ok (.pop, 1) := by decide +kernel
theorem dX3_readSign_45 : decode cX3_readSign 45 = .ok (.iconst 1, 1) := by decide +kernel
theorem dX3_readSign_46 : decode cX3_readSign 46 = .ok (.ireturn, 1) := by decide +kernel
theorem dX3_readSetting_0 : decode cX3_readSetting 0 = .ok (.aload_n 0, 1) := by decide +kernel
theorem dX3_readSetting_1 : decode cX3_readSetting 1 = .ok (.getfield 12, 3) := by decide +kernel
theorem dX3_readSetting_4 : decode cX3_readSetting 4 = .ok (.invokevirtual 29, 3) := by decide +kernel
theorem dX3_readSetting_7 : decode cX3_readSetting 7 = .ok (.aload_n 0, 1) := by decide +kernel
theorem dX3_readSetting_8 : decode cX3_readSetting 8 = .ok (.iconst 0, 1) := by decide +kernel
theorem dX3_readSetting_9 : decode cX3_readSetting 9 = .ok (.getstatic 124, 3) := by decide +kernel
theorem dX3_readSetting_12 : decode cX3_readSetting 12 = .ok (.iload_n 2, 1) := by decide +kernel
theorem dX3_readSetting_13 : decode cX3_readSetting 13 = .ok (.iaload, 1) := by decide +kernel
theorem dX3_readSetting_14 : decode cX3_readSetting 14 = .ok (.invokevirtual 104, 3) := by decide +kernel
theorem dX3_readSetting_17 : decode cX3_readSetting 17 = .ok (.istore_n 3, 1) := by decide +kernel
theorem dX3_readSetting_18 : decode cX3_readSetting 18 = .ok (.iload_n 3, 1) := by decide +kernel
theorem dX3_readSetting_19 : decode cX3_readSetting 19 = .ok (.iconst (-1), 1) := by decide +kernel
theorem dX3_readSetting_20 : decode cX3_readSetting 20 = .ok (.if_icmp .ne 5, 3) := by decide +kernel
theorem dX3_readSetting_23 : decode cX3_readSetting 23 = .ok (.iconst 0, 1) := by decide +kernel
theorem dX3_readSetting_24 : decode cX3_readSetting 24 = .ok (.ireturn, 1) := by decide +kernel
theorem dX3_readSetting_25 : decode cX3_readSetting 25 = .ok (.aload_n 1, 1) := by decide +kernel
theorem dX3_readSetting_26 : decode cX3_readSetting 26 = .ok (.getfield 127, 3) := by decide +kernel
theorem dX3_readSetting_29 : decode cX3_readSetting 29 = .ok (.iload_n 2, 1) := by decide +kernel
theorem dX3_readSetting_30 : decode cX3_readSetting 30 = .ok (.iload_n 3, 1) := by decide +kernel
theorem dX3_readSetting_31 : decode cX3_readSetting 31 = .ok (.iastore, 1) := by decide +kernel
theorem dX3_readSetting_32 : decode cX3_readSetting 32 = .ok (.iconst 1, 1) := by decide +kernel
theorem dX3_readSetting_33 : decode cX3_readSetting 33 = .ok (.ireturn, 1) := by decide +kernel
theorem dX3_numberBehind_0 : decode cX3_numberBehind 0 = .ok (.aload_n 0, 1) := by decide +kernel
theorem dX3_numberBehind_1 : decode cX3_numberBehind 1 = .ok (.getfield 12, 3) := by decide +kernel
theorem dX3_numberBehind_4 : decode cX3_numberBehind 4 = .ok (.aload_n 1, 1) := by decide +kernel
theorem dX3_numberBehind_5 : decode cX3_numberBehind 5 = .ok (.invokevirtual 37, 3) := by decide +kernel
theorem dX3_numberBehind_8 : decode cX3_numberBehind 8 = .ok (.ifCond .ne 5, 3) := by decide +kernel
theorem dX3_numberBehind_11 : decode cX3_numberBehind 11 = .ok (.iload_n 3, 1) := by decide +kernel
theorem dX3_numberBehind_12 : decode cX3_numberBehind 12 = .ok (.ireturn, 1) := by decide +kernel
theorem dX3_numberBehind_13 : decode cX3_numberBehind 13 = .ok (.aload_n 0, 1) := by decide +kernel
theorem dX3_numberBehind_14 : decode cX3_numberBehind 14 = .ok (.getfield 12, 3) := by decide +kernel
theorem dX3_numberBehind_17 : decode cX3_numberBehind 17 = .ok (.invokevirtual 29, 3) := by decide +kernel
theorem dX3_numberBehind_20 : decode cX3_numberBehind 20 = .ok (.aload_n 0, 1) := by decide +kernel
theorem dX3_numberBehind_21 : decode cX3_numberBehind 21 = .ok (.iconst 0, 1) := by decide +kernel
theorem dX3_numberBehind_22 : decode cX3_numberBehind 22 = .ok (.iload_n 2, 1) := by decide +kernel
theorem dX3_numberBehind_23 : decode cX3_numberBehind 23 = .ok (.invokevirtual 104, 3) := by decide +kernel
theorem dX3_numberBehind_26 : decode cX3_numberBehind 26 = .ok (.ireturn, 1) := by decide +kernel
theorem dX3_number_0 : decode cX3_number 0 = .ok (.aload_n 0, 1) := by decide +kernel
theorem dX3_number_1 : decode cX3_number 1 = .ok (.getfield 12, 3) := by decide +kernel
theorem dX3_number_4 : decode cX3_number 4 = .ok (.getfield 130, 3) := by decide +kernel
theorem dX3_number_7 : decode cX3_number 7 = .ok (.istore_n 3, 1) := by decide +kernel
theorem dX3_number_8 : decode cX3_number 8 = .ok (.aload_n 0, 1) := by decide +kernel
theorem dX3_number_9 : decode cX3_number 9 = .ok (.getfield 12, 3) := by decide +kernel
theorem dX3_number_12 : decode cX3_number 12 = .ok (.getfield 25, 3) := by decide +kernel
theorem dX3_number_15 : decode cX3_number 15 = .ok (.iconst 2, 1) := by decide +kernel
theorem dX3_number_16 : decode cX3_number 16 = .ok (.if_icmp .ne 13, 3) := by decide +kernel
theorem dX3_number_19 : decode cX3_number 19 = .ok (.iload_n 3, 1) := by decide +kernel
theorem dX3_number_20 : decode cX3_number 20 = .ok (.iload_n 1, 1) := by decide +kernel
theorem dX3_number_21 : decode cX3_number 21 = .ok (.if_icmp .lt 8, 3) := by decide +kernel
theorem dX3_number_24 : decode cX3_number 24 = .ok (.iload_n 3, 1) := by decide +kernel
theorem dX3_number_25 : decode cX3_number 25 = .ok (.iload_n 2, 1) := by decide +kernel
theorem dX3_number_26 : decode cX3_number 26 = .ok (.if_icmp .le 5, 3) := by decide +kernel
theorem dX3_number_29 : decode cX3_number 29 = .ok (.iconst (-1), 1) := by decide +kernel
theorem dX3_number_30 : decode cX3_number 30 = .ok (.ireturn, 1) := by decide +kernel
theorem dX3_number_31 : decode cX3_number 31 = .ok (.aload_n 0, 1) := by decide +kernel
theorem dX3_number_32 : decode cX3_number 32 = .ok (.getfield 12, 3) := by decide +kernel
theorem dX3_number_35 : decode cX3_number 35 = .ok (.invokevirtual 29, 3) := by decide +kernel
theorem dX3_number_38 : decode cX3_number 38 = .ok (.iload_n 3, 1) := by decide +kernel
theorem dX3_number_39 : decode cX3_number 39 = .ok (.ireturn, 1) := by decide +kernel
theorem dX4_init_0 : decode cX4_init 0 = .ok (.aload_n 0, 1) := by decide +kernel
theorem dX4_init_1 : decode cX4_init 1 = .ok (.invokespecial 3, 3) := by decide +kernel
theorem dX4_init_4 : decode cX4_init 4 = .ok (.aload_n 0, 1) := by decide +kernel
theorem dX4_init_5 : decode cX4_init 5 = .ok (.bipush 10, 2) := by decide +kernel
theorem dX4_init_7 : decode cX4_init 7 = .ok (.newarray .int, 2) := by decide +kernel
theorem dX4_init_9 : decode cX4_init 9 = .ok (.putfield 9, 3) := by decide +kernel
theorem dX4_init_12 : decode cX4_init 12 = .ok (.aload_n 0, 1) := by decide +kernel
theorem dX4_init_13 : decode cX4_init 13 = .ok (.bipush 10, 2) := by decide +kernel
theorem dX4_init_15 : decode cX4_init 15 = .ok (.newarray .int, 2) := by decide +kernel
theorem dX4_init_17 : decode cX4_init 17 = .ok (.putfield 15, 3) := by decide +kernel
theorem dX4_init_20 : decode cX4_init 20 = .ok (.aload_n 0, 1) := by decide +kernel
theorem dX4_init_21 : decode cX4_init 21 = .ok (.iconst 0, 1) := by decide +kernel
theorem dX4_init_22 : decode cX4_init 22 = .ok (.putfield 18, 3) := by decide +kernel
theorem dX4_init_25 : decode cX4_init 25 = .ok (.aload_n 0, 1) := by decide +kernel
theorem dX4_init_26 : decode cX4_init 26 = .ok (.iconst 0, 1) := by decide +kernel
theorem dX4_init_27 : decode cX4_init 27 = .ok (.putfield 22, 3) := by decide +kernel
theorem dX4_init_30 : decode cX4_init 30 = .ok (.return_, 1) := by decide +kernel
theorem dX4_standAt_0 : decode cX4_standAt 0 = .ok (.aload_n 0, 1) := by decide +kernel
theorem dX4_standAt_1 : decode cX4_standAt 1 = .ok (.aload_n 1, 1) := by decide +kernel
theorem dX4_standAt_2 : decode cX4_standAt 2 = .ok (.getfield 25, 3) := by decide +kernel
theorem dX4_standAt_5 : decode cX4_standAt 5 = .ok (.putfield 18, 3) := by decide +kernel
theorem dX4_standAt_8 : decode cX4_standAt 8 = .ok (.aload_n 0, 1) := by decide +kernel
theorem dX4_standAt_9 : decode cX4_standAt 9 = .ok (.aload_n 1, 1) := by decide +kernel
theorem dX4_standAt_10 : decode cX4_standAt 10 = .ok (.getfield 28, 3) := by decide +kernel
theorem dX4_standAt_13 : decode cX4_standAt 13 = .ok (.iconst 2, 1) := by decide +kernel
theorem dX4_standAt_14 : decode cX4_standAt 14 = .ok (.iaload, 1) := by decide +kernel
theorem dX4_standAt_15 : decode cX4_standAt 15 = .ok (.putfield 22, 3) := by decide +kernel
theorem dX4_standAt_18 : decode cX4_standAt 18 = .ok (.iconst 0, 1) := by decide +kernel
theorem dX4_standAt_19 : decode cX4_standAt 19 = .ok (.istore_n 3, 1) := by decide +kernel
theorem dX4_standAt_20 : decode cX4_standAt 20 = .ok (.iload_n 3, 1) := by decide +kernel
theorem dX4_standAt_21 : decode cX4_standAt 21 = .ok (.aload_n 0, 1) := by decide +kernel
theorem dX4_standAt_22 : decode cX4_standAt 22 = .ok (.getfield 18, 3) := by decide +kernel
theorem dX4_standAt_25 : decode cX4_standAt 25 = .ok (.if_icmp .ge 29, 3) := by decide +kernel
theorem dX4_standAt_28 : decode cX4_standAt 28 = .ok (.aload_n 0, 1) := by decide +kernel
theorem dX4_standAt_29 : decode cX4_standAt 29 = .ok (.iload_n 3, 1) := by decide +kernel
theorem dX4_standAt_30 : decode cX4_standAt 30 = .ok (.aload_n 1, 1) := by decide +kernel
theorem dX4_standAt_31 : decode cX4_standAt 31 = .ok (.getfield 31, 3) := by decide +kernel
theorem dX4_standAt_34 : decode cX4_standAt 34 = .ok (.iload_n 3, 1) := by decide +kernel
theorem dX4_standAt_35 : decode cX4_standAt 35 = .ok (.iaload, 1) := by decide +kernel
theorem dX4_standAt_36 : decode cX4_standAt 36 = .ok (.iload_n 2, 1) := by decide +kernel
theorem dX4_standAt_37 : decode cX4_standAt 37 = .ok (.isub, 1) := by decide +kernel
theorem dX4_standAt_38 : decode cX4_standAt 38 = .ok (.bipush 100, 2) := by decide +kernel
theorem dX4_standAt_40 : decode cX4_standAt 40 = .ok (.iadd, 1) := by decide +kernel
theorem dX4_standAt_41 : decode cX4_standAt 41 = .ok (.bipush 100, 2) := by decide +kernel
theorem dX4_standAt_43 : decode cX4_standAt 43 = .ok (.irem, 1) := by decide +kernel
theorem dX4_standAt_44 : decode cX4_standAt 44 = .ok (.iload_n 3, 1) := by decide +kernel
theorem dX4_standAt_45 : decode cX4_standAt 45 = .ok (.invokevirtual 34, 3) := by decide +kernel
theorem dX4_standAt_48 : decode cX4_standAt 48 = .ok (.iinc 3 1, 3) := by decide +kernel
theorem dX4_standAt_51 : decode cX4_standAt 51 = .ok (.goto (-31), 3) := by decide +kernel
theorem dX4_standAt_54 : decode cX4_standAt 54 = .ok (.return_, 1) := by decide +kernel
theorem dX4_insert_0 : decode cX4_insert 0 = .ok (.iload_n 3, 1) := by decide +kernel
theorem dX4_insert_1 : decode cX4_insert 1 = .ok (.istore 4, 2) := by decide +kernel
theorem dX4_insert_3 : decode cX4_insert 3 = .ok (.iload 4, 2) := by decide +kernel
theorem dX4_insert_5 : decode cX4_insert 5 = .ok (.ifCond .le 54, 3) := by decide +kernel
theorem dX4_insert_8 : decode cX4_insert 8 = .ok (.aload_n 0, 1) := by decide +kernel
theorem dX4_insert_9 : decode cX4_insert 9 = .ok (.getfield 15, 3) := by decide +kernel
theorem dX4_insert_12 : decode cX4_insert 12 = .ok (.iload 4, 2) := by decide +kernel
theorem dX4_insert_14 : decode cX4_insert 14 = .ok (.iconst 1, 1) := by decide +kernel
theorem dX4_insert_15 : decode cX4_insert 15 = .ok (.isub, 1) := by decide +kernel
theorem dX4_insert_16 : decode cX4_insert 16 = .ok (.iaload, 1) := by decide +kernel
theorem dX4_insert_17 : decode cX4_insert 17 = .ok (.iload_n 2, 1) := by decide +kernel
theorem dX4_insert_18 : decode cX4_insert 18 = .ok (.if_icmp .le 41, 3) := by decide +kernel
theorem dX4_insert_21 : decode cX4_insert 21 = .ok (.aload_n 0, 1) := by decide +kernel
theorem dX4_insert_22 : decode cX4_insert 22 = .ok (.getfield 9, 3) := by decide +kernel
theorem dX4_insert_25 : decode cX4_insert 25 = .ok (.iload 4, 2) := by decide +kernel
theorem dX4_insert_27 : decode cX4_insert 27 = .ok (.aload_n 0, 1) := by decide +kernel
theorem dX4_insert_28 : decode cX4_insert 28 = .ok (.getfield 9, 3) := by decide +kernel
theorem dX4_insert_31 : decode cX4_insert 31 = .ok (.iload 4, 2) := by decide +kernel
theorem dX4_insert_33 : decode cX4_insert 33 = .ok (.iconst 1, 1) := by decide +kernel
theorem dX4_insert_34 : decode cX4_insert 34 = .ok (.isub, 1) := by decide +kernel
theorem dX4_insert_35 : decode cX4_insert 35 = .ok (.iaload, 1) := by decide +kernel
theorem dX4_insert_36 : decode cX4_insert 36 = .ok (.iastore, 1) := by decide +kernel
theorem dX4_insert_37 : decode cX4_insert 37 = .ok (.aload_n 0, 1) := by decide +kernel
theorem dX4_insert_38 : decode cX4_insert 38 = .ok (.getfield 15, 3) := by decide +kernel
theorem dX4_insert_41 : decode cX4_insert 41 = .ok (.iload 4, 2) := by decide +kernel
theorem dX4_insert_43 : decode cX4_insert 43 = .ok (.aload_n 0, 1) := by decide +kernel
theorem dX4_insert_44 : decode cX4_insert 44 = .ok (.getfield 15, 3) := by decide +kernel
theorem dX4_insert_47 : decode cX4_insert 47 = .ok (.iload 4, 2) := by decide +kernel
theorem dX4_insert_49 : decode cX4_insert 49 = .ok (.iconst 1, 1) := by decide +kernel
theorem dX4_insert_50 : decode cX4_insert 50 = .ok (.isub, 1) := by decide +kernel
theorem dX4_insert_51 : decode cX4_insert 51 = .ok (.iaload, 1) := by decide +kernel
theorem dX4_insert_52 : decode cX4_insert 52 = .ok (.iastore, 1) := by decide +kernel
theorem dX4_insert_53 : decode cX4_insert 53 = .ok (.iinc 4 (-1), 3) := by decide +kernel
theorem dX4_insert_56 : decode cX4_insert 56 = .ok (.goto (-53), 3) := by decide +kernel
theorem dX4_insert_59 : decode cX4_insert 59 = .ok (.aload_n 0, 1) := by decide +kernel
theorem dX4_insert_60 : decode cX4_insert 60 = .ok (.getfield 9, 3) := by decide +kernel
theorem dX4_insert_63 : decode cX4_insert 63 = .ok (.iload 4, 2) := by decide +kernel
theorem dX4_insert_65 : decode cX4_insert 65 = .ok (.iload_n 1, 1) := by decide +kernel
theorem dX4_insert_66 : decode cX4_insert 66 = .ok (.iastore, 1) := by decide +kernel
theorem dX4_insert_67 : decode cX4_insert 67 = .ok (.aload_n 0, 1) := by decide +kernel
theorem dX4_insert_68 : decode cX4_insert 68 = .ok (.getfield 15, 3) := by decide +kernel
theorem dX4_insert_71 : decode cX4_insert 71 = .ok (.iload 4, 2) := by decide +kernel
theorem dX4_insert_73 : decode cX4_insert 73 = .ok (.iload_n 2, 1) := by decide +kernel
theorem dX4_insert_74 : decode cX4_insert 74 = .ok (.iastore, 1) := by decide +kernel
theorem dX4_insert_75 : decode cX4_insert 75 = .ok (.return_, 1) := by decide +kernel
theorem dX4_stepsBy_0 : decode cX4_stepsBy 0 = .ok (.ldc 38, 2) := by decide +kernel
theorem dX4_stepsBy_2 : decode cX4_stepsBy 2 = .ok (.istore_n 2, 1) := by decide +kernel
theorem dX4_stepsBy_3 : decode cX4_stepsBy 3 = .ok (.iconst 0, 1) := by decide +kernel
theorem dX4_stepsBy_4 : decode cX4_stepsBy 4 = .ok (.istore_n 3, 1) := by decide +kernel
theorem dX4_stepsBy_5 : decode cX4_stepsBy 5 = .ok (.iconst 0, 1) := by decide +kernel
theorem dX4_stepsBy_6 : decode cX4_stepsBy 6 = .ok (.istore 4, 2) := by decide +kernel
theorem dX4_stepsBy_8 : decode cX4_stepsBy 8 = .ok (.iload 4, 2) := by decide +kernel
theorem dX4_stepsBy_10 : decode cX4_stepsBy 10 = .ok (.aload_n 0, 1) := by decide +kernel
theorem dX4_stepsBy_11 : decode cX4_stepsBy 11 = .ok (.getfield 18, 3) := by decide +kernel
theorem dX4_stepsBy_14 : decode cX4_stepsBy 14 = .ok (.if_icmp .ge 60, 3) := by decide +kernel
theorem dX4_stepsBy_17 : decode cX4_stepsBy 17 = .ok (.iload_n 1, 1) := by decide +kernel
theorem dX4_stepsBy_18 : decode cX4_stepsBy 18 = .ok (.aload_n 0, 1) := by decide +kernel
theorem dX4_stepsBy_19 : decode cX4_stepsBy 19 = .ok (.getfield 9, 3) := by decide +kernel
theorem dX4_stepsBy_22 : decode cX4_stepsBy 22 = .ok (.iload 4, 2) := by decide +kernel
theorem dX4_stepsBy_24 : decode cX4_stepsBy 24 = .ok (.iaload, 1) := by decide +kernel
theorem dX4_stepsBy_25 : decode cX4_stepsBy 25 = .ok (.ishr, 1) := by decide +kernel
theorem dX4_stepsBy_26 : decode cX4_stepsBy 26 = .ok (.iconst 1, 1) := by decide +kernel
theorem dX4_stepsBy_27 : decode cX4_stepsBy 27 = .ok (.iand, 1) := by decide +kernel
theorem dX4_stepsBy_28 : decode cX4_stepsBy 28 = .ok (.iconst 1, 1) := by decide +kernel
theorem dX4_stepsBy_29 : decode cX4_stepsBy 29 = .ok (.if_icmp .ne 39, 3) := by decide +kernel
theorem dX4_stepsBy_32 : decode cX4_stepsBy 32 = .ok (.bipush 100, 2) := by decide +kernel
theorem dX4_stepsBy_34 : decode cX4_stepsBy 34 = .ok (.aload_n 0, 1) := by decide +kernel
theorem dX4_stepsBy_35 : decode cX4_stepsBy 35 = .ok (.getfield 15, 3) := by decide +kernel
theorem dX4_stepsBy_38 : decode cX4_stepsBy 38 = .ok (.iload 4, 2) := by decide +kernel
theorem dX4_stepsBy_40 : decode cX4_stepsBy 40 = .ok (.iaload, 1) := by decide +kernel
theorem dX4_stepsBy_41 : decode cX4_stepsBy 41 = .ok (.isub, 1) := by decide +kernel
theorem dX4_stepsBy_42 : decode cX4_stepsBy 42 = .ok (.istore 5, 2) := by decide +kernel
theorem dX4_stepsBy_44 : decode cX4_stepsBy 44 = .ok (.iload_n 2, 1) := by decide +kernel
theorem dX4_stepsBy_45 : decode cX4_stepsBy 45 = .ok (.iload_n 3, 1) := by decide +kernel
theorem dX4_stepsBy_46 : decode cX4_stepsBy 46 = .ok (.iload 5, 2) := by decide +kernel
theorem dX4_stepsBy_48 : decode cX4_stepsBy 48 = .ok (.iadd, 1) := by decide +kernel
theorem dX4_stepsBy_49 : decode cX4_stepsBy 49 = .ok (.iload_n 3, 1) := by decide +kernel
theorem dX4_stepsBy_50 : decode cX4_stepsBy 50 = .ok (.iload 5, 2) := by decide +kernel
theorem dX4_stepsBy_52 : decode cX4_stepsBy 52 = .ok (.invokestatic 39, 3) := by decide +kernel
theorem dX4_stepsBy_55 : decode cX4_stepsBy 55 = .ok (.iadd, 1) := by decide +kernel
theorem dX4_stepsBy_56 : decode cX4_stepsBy 56 = .ok (.invokestatic 39, 3) := by decide +kernel
theorem dX4_stepsBy_59 : decode cX4_stepsBy 59 = .ok (.istore_n 2, 1) := by decide +kernel
theorem dX4_stepsBy_60 : decode cX4_stepsBy 60 = .ok (.aload_n 0, 1) := by decide +kernel
theorem dX4_stepsBy_61 : decode cX4_stepsBy 61 = .ok (.getfield 15, 3) := by decide +kernel
theorem dX4_stepsBy_64 : decode cX4_stepsBy 64 = .ok (.iload 4, 2) := by decide +kernel
theorem dX4_stepsBy_66 : decode cX4_stepsBy 66 = .ok (.iaload, 1) := by decide +kernel
theorem dX4_stepsBy_67 : decode cX4_stepsBy 67 = .ok (.istore_n 3, 1) := by decide +kernel
theorem dX4_stepsBy_68 : decode cX4_stepsBy 68 = .ok (.iinc 4 1, 3) := by decide +kernel
theorem dX4_stepsBy_71 : decode cX4_stepsBy 71 = .ok (.goto (-63), 3) := by decide +kernel
theorem dX4_stepsBy_74 : decode cX4_stepsBy 74 = .ok (.iload_n 2, 1) := by decide +kernel
theorem dX4_stepsBy_75 : decode cX4_stepsBy 75 = .ok (.iload_n 3, 1) := by decide +kernel
theorem dX4_stepsBy_76 : decode cX4_stepsBy 76 = .ok (.invokestatic 39, 3) := by decide +kernel
theorem dX4_stepsBy_79 : decode cX4_stepsBy 79 = .ok (.aload_n 0, 1) := by decide +kernel
theorem dX4_stepsBy_80 : decode cX4_stepsBy 80 = .ok (.getfield 22, 3) := by decide +kernel
theorem dX4_stepsBy_83 : decode cX4_stepsBy 83 = .ok (.iload_n 1, 1) := by decide +kernel
theorem dX4_stepsBy_84 : decode cX4_stepsBy 84 = .ok (.invokestatic 45, 3) := by decide +kernel
theorem dX4_stepsBy_87 : decode cX4_stepsBy 87 = .ok (.imul, 1) := by decide +kernel
theorem dX4_stepsBy_88 : decode cX4_stepsBy 88 = .ok (.iadd, 1) := by decide +kernel
theorem dX4_stepsBy_89 : decode cX4_stepsBy 89 = .ok (.ireturn, 1) := by decide +kernel
theorem dX5_init_0 : decode cX5_init 0 = .ok (.aload_n 0, 1) := by decide +kernel
theorem dX5_init_1 : decode cX5_init 1 = .ok (.invokespecial 1, 3) := by decide +kernel
theorem dX5_init_4 : decode cX5_init 4 = .ok (.aload_n 0, 1) := by decide +kernel
theorem dX5_init_5 : decode cX5_init 5 = .ok (.new 7, 3) := by decide +kernel
theorem dX5_init_8 : decode cX5_init 8 = .ok (.dup, 1) := by decide +kernel
theorem dX5_init_9 : decode cX5_init 9 = .ok (.invokespecial 9, 3) := by decide +kernel
theorem dX5_init_12 : decode cX5_init 12 = .ok (.putfield 10, 3) := by decide +kernel
theorem dX5_init_15 : decode cX5_init 15 = .ok (.aload_n 0, 1) := by decide +kernel
theorem dX5_init_16 : decode cX5_init 16 = .ok (.new 7, 3) := by decide +kernel
theorem dX5_init_19 : decode cX5_init 19 = .ok (.dup, 1) := by decide +kernel
theorem dX5_init_20 : decode cX5_init 20 = .ok (.invokespecial 9, 3) := by decide +kernel
theorem dX5_init_23 : decode cX5_init 23 = .ok (.putfield 16, 3) := by decide +kernel
theorem dX5_init_26 : decode cX5_init 26 = .ok (.aload_n 0, 1) := by decide +kernel
theorem dX5_init_27 : decode cX5_init 27 = .ok (.new 7, 3) := by decide +kernel
theorem dX5_init_30 : decode cX5_init 30 = .ok (.dup, 1) := by decide +kernel
theorem dX5_init_31 : decode cX5_init 31 = .ok (.invokespecial 9, 3) := by decide +kernel
theorem dX5_init_34 : decode cX5_init 34 = .ok (.putfield 19, 3) := by decide +kernel
theorem dX5_init_37 : decode cX5_init 37 = .ok (.aload_n 0, 1) := by decide +kernel
theorem dX5_init_38 : decode cX5_init 38 = .ok (.iconst 0, 1) := by decide +kernel
theorem dX5_init_39 : decode cX5_init 39 = .ok (.putfield 22, 3) := by decide +kernel
theorem dX5_init_42 : decode cX5_init 42 = .ok (.aload_n 0, 1) := by decide +kernel
theorem dX5_init_43 : decode cX5_init 43 = .ok (.new 26, 3) := by decide +kernel
theorem dX5_init_46 : decode cX5_init 46 = .ok (.dup, 1) := by decide +kernel
theorem dX5_init_47 : decode cX5_init 47 = .ok (.invokespecial 28, 3) := by decide +kernel
theorem dX5_init_50 : decode cX5_init 50 = .ok (.putfield 29, 3) := by decide +kernel
theorem dX5_init_53 : decode cX5_init 53 = .ok (.aload_n 0, 1) := by decide +kernel
theorem dX5_init_54 : decode cX5_init 54 = .ok (.iconst 4, 1) := by decide +kernel
theorem dX5_init_55 : decode cX5_init 55 = .ok (.anewarray 33, 3) := by decide +kernel
theorem dX5_init_58 : decode cX5_init 58 = .ok (.putfield 35, 3) := by decide +kernel
theorem dX5_init_61 : decode cX5_init 61 = .ok (.aload_n 0, 1) := by decide +kernel
theorem dX5_init_62 : decode cX5_init 62 = .ok (.new 39, 3) := by decide +kernel
theorem dX5_init_65 : decode cX5_init 65 = .ok (.dup, 1) := by decide +kernel
theorem dX5_init_66 : decode cX5_init 66 = .ok (.invokespecial 41, 3) := by decide +kernel
theorem dX5_init_69 : decode cX5_init 69 = .ok (.putfield 42, 3) := by decide +kernel
theorem dX5_init_72 : decode cX5_init 72 = .ok (.aload_n 0, 1) := by decide +kernel
theorem dX5_init_73 : decode cX5_init 73 = .ok (.new 39, 3) := by decide +kernel
theorem dX5_init_76 : decode cX5_init 76 = .ok (.dup, 1) := by decide +kernel
theorem dX5_init_77 : decode cX5_init 77 = .ok (.invokespecial 41, 3) := by decide +kernel
theorem dX5_init_80 : decode cX5_init 80 = .ok (.putfield 46, 3) := by decide +kernel
theorem dX5_init_83 : decode cX5_init 83 = .ok (.aload_n 0, 1) := by decide +kernel
theorem dX5_init_84 : decode cX5_init 84 = .ok (.bipush 10, 2) := by decide +kernel
theorem dX5_init_86 : decode cX5_init 86 = .ok (.newarray .int, 2) := by decide +kernel
theorem dX5_init_88 : decode cX5_init 88 = .ok (.putfield 49, 3) := by decide +kernel
theorem dX5_init_91 : decode cX5_init 91 = .ok (.aload_n 0, 1) := by decide +kernel
theorem dX5_init_92 : decode cX5_init 92 = .ok (.bipush 7, 2) := by decide +kernel
theorem dX5_init_94 : decode cX5_init 94 = .ok (.newarray .int, 2) := by decide +kernel
theorem dX5_init_96 : decode cX5_init 96 = .ok (.putfield 53, 3) := by decide +kernel
theorem dX5_init_99 : decode cX5_init 99 = .ok (.iconst 0, 1) := by decide +kernel
theorem dX5_init_100 : decode cX5_init 100 = .ok (.istore_n 1, 1) := by decide +kernel
theorem dX5_init_101 : decode cX5_init 101 = .ok (.iload_n 1, 1) := by decide +kernel
theorem dX5_init_102 : decode cX5_init 102 = .ok (.iconst 4, 1) := by decide +kernel
theorem dX5_init_103 : decode cX5_init 103 = .ok (.if_icmp .ge 22, 3) := by decide +kernel
theorem dX5_init_106 : decode cX5_init 106 = .ok (.aload_n 0, 1) := by decide +kernel
theorem dX5_init_107 : decode cX5_init 107 = .ok (.getfield 35, 3) := by decide +kernel
theorem dX5_init_110 : decode cX5_init 110 = .ok (.iload_n 1, 1) := by decide +kernel
theorem dX5_init_111 : decode cX5_init 111 = .ok (.new 33, 3) := by decide +kernel
theorem dX5_init_114 : decode cX5_init 114 = .ok (.dup, 1) := by decide +kernel
theorem dX5_init_115 : decode cX5_init 115 = .ok (.invokespecial 56, 3) := by decide +kernel
theorem dX5_init_118 : decode cX5_init 118 = .ok (.aastore, 1) := by decide +kernel
theorem dX5_init_119 : decode cX5_init 119 = .ok (.iinc 1 1, 3) := by decide +kernel
theorem dX5_init_122 : decode cX5_init 122 = .ok (.goto (-21), 3) := by decide +kernel
theorem dX5_init_125 : decode cX5_init 125 = .ok (.return_, 1) := by decide +kernel
theorem dX5_star_0 : decode cX5_star 0 = .ok (.iload_n 1, 1) := by decide +kernel
theorem dX5_star_1 : decode cX5_star 1 = .ok (.bipush 7, 2) := by decide +kernel
theorem dX5_star_3 : decode cX5_star 3 = .ok (.invokestatic 57, 3) := by decide +kernel
theorem dX5_star_6 : decode cX5_star 6 = .ok (.ifCond .eq 12, 3) := by decide +kernel
theorem dX5_star_9 : decode cX5_star 9 = .ok (.iload_n 2, 1) := by decide +kernel
theorem dX5_star_10 : decode cX5_star 10 = .ok (.bipush 100, 2) := by decide +kernel
theorem dX5_star_12 : decode cX5_star 12 = .ok (.invokestatic 57, 3) := by decide +kernel
theorem dX5_star_15 : decode cX5_star 15 = .ok (.ifCond .ne 9, 3) := by decide +kernel
theorem dX5_star_18 : decode cX5_star 18 = .ok (.aload_n 0, 1) := by decide +kernel
theorem dX5_star_19 : decode cX5_star 19 = .ok (.iconst 0, 1) := by decide +kernel
theorem dX5_star_20 : decode cX5_star 20 = .ok (.invokevirtual 61, 3) := by decide +kernel
theorem dX5_star_23 : decode cX5_star 23 = .ok (.ireturn, 1) := by decide +kernel
theorem dX5_star_24 : decode cX5_star 24 = .ok (.aload_n 0, 1) := by decide +kernel
theorem dX5_star_25 : decode cX5_star 25 = .ok (.getfield 10, 3) := by decide +kernel
theorem dX5_star_28 : decode cX5_star 28 = .ok (.getfield 65, 3) := by decide +kernel
theorem dX5_star_31 : decode cX5_star 31 = .ok (.bipush 10, 2) := by decide +kernel
theorem dX5_star_33 : decode cX5_star 33 = .ok (.if_icmp .lt 9, 3) := by decide +kernel
theorem dX5_star_36 : decode cX5_star 36 = .ok (.aload_n 0, 1) := by decide +kernel
theorem dX5_star_37 : decode cX5_star 37 = .ok (.iconst 1, 1) := by decide +kernel
theorem dX5_star_38 : decode cX5_star 38 = .ok (.invokevirtual 61, 3) := by decide +kernel
theorem dX5_star_41 : decode cX5_star 41 = .ok (.ireturn, 1) := by decide +kernel
theorem dX5_star_42 : decode cX5_star 42 = .ok (.aload_n 0, 1) := by decide +kernel
theorem dX5_star_43 : decode cX5_star 43 = .ok (.getfield 10, 3) := by decide +kernel
theorem dX5_star_46 : decode cX5_star 46 = .ok (.iload_n 1, 1) := by decide +kernel
theorem dX5_star_47 : decode cX5_star 47 = .ok (.iload_n 2, 1) := by decide +kernel
theorem dX5_star_48 : decode cX5_star 48 = .ok (.bipush 50, 2) := by decide +kernel
theorem dX5_star_50 : decode cX5_star 50 = .ok (.iconst 1, 1) := by decide +kernel
theorem dX5_star_51 : decode cX5_star 51 = .ok (.invokevirtual 69, 3) := by decide +kernel
theorem dX5_star_54 : decode cX5_star 54 = .ok (.ireturn, 1) := by decide +kernel
theorem dX5_of_0 : decode cX5_of 0 = .ok (.iload_n 1, 1) := by decide +kernel
theorem dX5_of_1 : decode cX5_of 1 = .ok (.aload_n 0, 1) := by decide +kernel
theorem dX5_of_2 : decode cX5_of 2 = .ok (.getfield 10, 3) := by decide +kernel
theorem dX5_of_5 : decode cX5_of 5 = .ok (.getfield 65, 3) := by decide +kernel
theorem dX5_of_8 : decode cX5_of 8 = .ok (.invokestatic 57, 3) := by decide +kernel
theorem dX5_of_11 : decode cX5_of 11 = .ok (.ifCond .ne 9, 3) := by decide +kernel
theorem dX5_of_14 : decode cX5_of 14 = .ok (.aload_n 0, 1) := by decide +kernel
theorem dX5_of_15 : decode cX5_of 15 = .ok (.iconst 0, 1) := by decide +kernel
theorem dX5_of_16 : decode cX5_of 16 = .ok (.invokevirtual 61, 3) := by decide +kernel
theorem dX5_of_19 : decode cX5_of 19 = .ok (.ireturn, 1) := by decide +kernel
theorem dX5_of_20 : decode cX5_of 20 = .ok (.aload_n 0, 1) := by decide +kernel
theorem dX5_of_21 : decode cX5_of 21 = .ok (.getfield 10, 3) := by decide +kernel
theorem dX5_of_24 : decode cX5_of 24 = .ok (.iload_n 2, 1) := by decide +kernel
theorem dX5_of_25 : decode cX5_of 25 = .ok (.invokevirtual 73, 3) := by decide +kernel
theorem dX5_of_28 : decode cX5_of 28 = .ok (.astore_n 3, 1) := by decide +kernel
theorem dX5_of_29 : decode cX5_of 29 = .ok (.aload_n 3, 1) := by decide +kernel
theorem dX5_of_30 : decode cX5_of 30 = .ok (.ifnull 7, 3) := by decide +kernel
theorem dX5_of_33 : decode cX5_of 33 = .ok (.aload_n 3, 1) := by decide +kernel
theorem dX5_of_34 : decode cX5_of 34 = .ok (.iload_n 1, 1) := by decide +kernel
theorem dX5_of_35 : decode cX5_of 35 = .ok (.iaload, 1) := by decide +kernel
theorem dX5_of_36 : decode cX5_of 36 = .ok (.ireturn, 1) := by decide +kernel
theorem dX5_of_37 : decode cX5_of 37 = .ok (.iload_n 2, 1) := by decide +kernel
theorem dX5_of_38 : decode cX5_of 38 = .ok (.tableswitch 112 4 6 #[26, 61, 78], 26) := by decide +kernel
theorem dX5_of_64 : decode cX5_of 64 = .ok (.aload_n 0, 1) := by decide +kernel
theorem dX5_of_65 : decode cX5_of 65 = .ok (.getfield 10, 3) := by decide +kernel
theorem dX5_of_68 : decode cX5_of 68 = .ok (.aload_n 0, 1) := by decide +kernel
theorem dX5_of_69 : decode cX5_of 69 = .ok (.getfield 10, 3) := by decide +kernel
theorem dX5_of_72 : decode cX5_of 72 = .ok (.getfield 77, 3) := by decide +kernel
theorem dX5_of_75 : decode cX5_of 75 = .ok (.iload_n 1, 1) := by decide +kernel
theorem dX5_of_76 : decode cX5_of 76 = .ok (.iaload, 1) := by decide +kernel
theorem dX5_of_77 : decode cX5_of 77 = .ok (.aload_n 0, 1) := by decide +kernel
theorem dX5_of_78 : decode cX5_of 78 = .ok (.getfield 10, 3) := by decide +kernel
theorem dX5_of_81 : decode cX5_of 81 = .ok (.getfield 80, 3) := by decide +kernel
theorem dX5_of_84 : decode cX5_of 84 = .ok (.iload_n 1, 1) := by decide +kernel
theorem dX5_of_85 : decode cX5_of 85 = .ok (.iaload, 1) := by decide +kernel
theorem dX5_of_86 : decode cX5_of 86 = .ok (.aload_n 0, 1) := by decide +kernel
theorem dX5_of_87 : decode cX5_of 87 = .ok (.getfield 10, 3) := by decide +kernel
theorem dX5_of_90 : decode cX5_of 90 = .ok (.getfield 83, 3) := by decide +kernel
theorem dX5_of_93 : decode cX5_of 93 = .ok (.iconst 0, 1) := by decide +kernel
theorem dX5_of_94 : decode cX5_of 94 = .ok (.iaload, 1) := by decide +kernel
theorem dX5_of_95 : decode cX5_of 95 = .ok (.invokevirtual 86, 3) := by decide +kernel
theorem dX5_of_98 : decode cX5_of 98 = .ok (.ireturn, 1) := by decide +kernel
theorem dX5_of_99 : decode cX5_of 99 = .ok (.aload_n 0, 1) := by decide +kernel
theorem dX5_of_100 : decode cX5_of 100 = .ok (.getfield 10, 3) := by decide +kernel
theorem dX5_of_103 : decode cX5_of 103 = .ok (.aload_n 0, 1) := by decide +kernel
theorem dX5_of_104 : decode cX5_of 104 = .ok (.getfield 10, 3) := by decide +kernel
theorem dX5_of_107 : decode cX5_of 107 = .ok (.getfield 77, 3) := by decide +kernel
theorem dX5_of_110 : decode cX5_of 110 = .ok (.iload_n 1, 1) := by decide +kernel
theorem dX5_of_111 : decode cX5_of 111 = .ok (.iaload, 1) := by decide +kernel
theorem dX5_of_112 : decode cX5_of 112 = .ok (.invokevirtual 90, 3) := by decide +kernel
theorem dX5_of_115 : decode cX5_of 115 = .ok (.ireturn, 1) := by decide +kernel
theorem dX5_of_116 : decode cX5_of 116 = .ok (.aload_n 0, 1) := by decide +kernel
theorem dX5_of_117 : decode cX5_of 117 = .ok (.getfield 10, 3) := by decide +kernel
theorem dX5_of_120 : decode cX5_of 120 = .ok (.aload_n 0, 1) := by decide +kernel
theorem dX5_of_121 : decode cX5_of 121 = .ok (.getfield 10, 3) := by decide +kernel
theorem dX5_of_124 : decode cX5_of 124 = .ok (.getfield 77, 3) := by decide +kernel
theorem dX5_of_127 : decode cX5_of 127 = .ok (.iload_n 1, 1) := by decide +kernel
theorem dX5_of_128 : decode cX5_of 128 = .ok (.iaload, 1) := by decide +kernel
theorem dX5_of_129 : decode cX5_of 129 = .ok (.aload_n 0, 1) := by decide +kernel
theorem dX5_of_130 : decode cX5_of 130 = .ok (.getfield 10, 3) := by decide +kernel
theorem dX5_of_133 : decode cX5_of 133 = .ok (.getfield 80, 3) := by decide +kernel
theorem dX5_of_136 : decode cX5_of 136 = .ok (.iload_n 1, 1) := by decide +kernel
theorem dX5_of_137 : decode cX5_of 137 = .ok (.iaload, 1) := by decide +kernel
theorem dX5_of_138 : decode cX5_of 138 = .ok (.invokevirtual 93, 3) := by decide +kernel
theorem dX5_of_141 : decode cX5_of 141 = .ok (.ifCond .eq 7, 3) := by decide +kernel
theorem dX5_of_144 : decode cX5_of 144 = .ok (.iconst 1, 1) := by decide +kernel
theorem dX5_of_145 : decode cX5_of 145 = .ok (.goto 4, 3) := by decide +kernel
theorem dX5_of_148 : decode cX5_of 148 = .ok (.iconst 0, 1) := by decide +kernel
theorem dX5_of_149 : decode cX5_of 149 = .ok (.ireturn, 1) := by decide +kernel
theorem dX5_of_150 : decode cX5_of 150 = .ok (.aload_n 0, 1) := by decide +kernel
theorem dX5_of_151 : decode cX5_of 151 = .ok (.iconst 0, 1) := by decide +kernel
theorem dX5_of_152 : decode cX5_of 152 = .ok (.invokevirtual 61, 3) := by decide +kernel
theorem dX5_of_155 : decode cX5_of 155 = .ok (.ireturn, 1) := by decide +kernel
theorem dX5_change_0 : decode cX5_change 0 = .ok (.aload_n 0, 1) := by decide +kernel
theorem dX5_change_1 : decode cX5_change 1 = .ok (.getfield 10, 3) := by decide +kernel
theorem dX5_change_4 : decode cX5_change 4 = .ok (.iload_n 2, 1) := by decide +kernel
theorem dX5_change_5 : decode cX5_change 5 = .ok (.invokevirtual 73, 3) := by decide +kernel
theorem dX5_change_8 : decode cX5_change 8 = .ok (.astore 4, 2) := by decide +kernel
theorem dX5_change_10 : decode cX5_change 10 = .ok (.aload 4, 2) := by decide +kernel
theorem dX5_change_12 : decode cX5_change 12 = .ok (.ifnull 28, 3) := by decide +kernel
theorem dX5_change_15 : decode cX5_change 15 = .ok (.iload_n 1, 1) := by decide +kernel
theorem dX5_change_16 : decode cX5_change 16 = .ok (.aload_n 0, 1) := by decide +kernel
theorem dX5_change_17 : decode cX5_change 17 = .ok (.getfield 10, 3) := by decide +kernel
theorem dX5_change_20 : decode cX5_change 20 = .ok (.getfield 65, 3) := by decide +kernel
theorem dX5_change_23 : decode cX5_change 23 = .ok (.invokestatic 57, 3) := by decide +kernel
theorem dX5_change_26 : decode cX5_change 26 = .ok (.ifCond .eq 14, 3) := by decide +kernel
theorem dX5_change_29 : decode cX5_change 29 = .ok (.iload_n 3, 1) := by decide +kernel
theorem dX5_change_30 : decode cX5_change 30 = .ok (.iload_n 2, 1) := by decide +kernel
theorem dX5_change_31 : decode cX5_change 31 = .ok (.invokestatic 96, 3) := by decide +kernel
theorem dX5_change_34 : decode cX5_change 34 = .ok (.invokestatic 99, 3) := by decide +kernel
theorem dX5_change_37 : decode cX5_change 37 = .ok (.ifCond .ne 9, 3) := by decide +kernel
theorem dX5_change_40 : decode cX5_change 40 = .ok (.aload_n 0, 1) := by decide +kernel
theorem dX5_change_41 : decode cX5_change 41 = .ok (.iconst 0, 1) := by decide +kernel
theorem dX5_change_42 : decode cX5_change 42 = .ok (.invokevirtual 61, 3) := by decide +kernel
theorem dX5_change_45 : decode cX5_change 45 = .ok (.ireturn, 1) := by decide +kernel
theorem dX5_change_46 : decode cX5_change 46 = .ok (.aload 4, 2) := by decide +kernel
theorem dX5_change_48 : decode cX5_change 48 = .ok (.iload_n 1, 1) := by decide +kernel
theorem dX5_change_49 : decode cX5_change 49 = .ok (.iload_n 3, 1) := by decide +kernel
theorem dX5_change_50 : decode cX5_change 50 = .ok (.invokestatic 102, 3) := by decide +kernel
theorem dX5_change_53 : decode cX5_change 53 = .ok (.ireturn, 1) := by decide +kernel
theorem dX5_crew_0 : decode cX5_crew 0 = .ok (.aload_n 0, 1) := by decide +kernel
theorem dX5_crew_1 : decode cX5_crew 1 = .ok (.getfield 10, 3) := by decide +kernel
theorem dX5_crew_4 : decode cX5_crew 4 = .ok (.iload_n 2, 1) := by decide +kernel
theorem dX5_crew_5 : decode cX5_crew 5 = .ok (.invokevirtual 106, 3) := by decide +kernel
theorem dX5_crew_8 : decode cX5_crew 8 = .ok (.astore 4, 2) := by decide +kernel
theorem dX5_crew_10 : decode cX5_crew 10 = .ok (.aload 4, 2) := by decide +kernel
theorem dX5_crew_12 : decode cX5_crew 12 = .ok (.ifnull 22, 3) := by decide +kernel
theorem dX5_crew_15 : decode cX5_crew 15 = .ok (.iload_n 1, 1) := by decide +kernel
theorem dX5_crew_16 : decode cX5_crew 16 = .ok (.iconst 4, 1) := by decide +kernel
theorem dX5_crew_17 : decode cX5_crew 17 = .ok (.invokestatic 57, 3) := by decide +kernel
theorem dX5_crew_20 : decode cX5_crew 20 = .ok (.ifCond .eq 14, 3) := by decide +kernel
theorem dX5_crew_23 : decode cX5_crew 23 = .ok (.iload_n 3, 1) := by decide +kernel
theorem dX5_crew_24 : decode cX5_crew 24 = .ok (.iload_n 2, 1) := by decide +kernel
theorem dX5_crew_25 : decode cX5_crew 25 = .ok (.invokestatic 109, 3) := by decide +kernel
theorem dX5_crew_28 : decode cX5_crew 28 = .ok (.invokestatic 99, 3) := by decide +kernel
theorem dX5_crew_31 : decode cX5_crew 31 = .ok (.ifCond .ne 9, 3) := by decide +kernel
theorem dX5_crew_34 : decode cX5_crew 34 = .ok (.aload_n 0, 1) := by decide +kernel
theorem dX5_crew_35 : decode cX5_crew 35 = .ok (.iconst 0, 1) := by decide +kernel
theorem dX5_crew_36 : decode cX5_crew 36 = .ok (.invokevirtual 61, 3) := by decide +kernel
theorem dX5_crew_39 : decode cX5_crew 39 = .ok (.ireturn, 1) := by decide +kernel
theorem dX5_crew_40 : decode cX5_crew 40 = .ok (.aload 4, 2) := by decide +kernel
theorem dX5_crew_42 : decode cX5_crew 42 = .ok (.iload_n 1, 1) := by decide +kernel
theorem dX5_crew_43 : decode cX5_crew 43 = .ok (.iload_n 3, 1) := by decide +kernel
theorem dX5_crew_44 : decode cX5_crew 44 = .ok (.invokestatic 102, 3) := by decide +kernel
theorem dX5_crew_47 : decode cX5_crew 47 = .ok (.ireturn, 1) := by decide +kernel
theorem dX5_crewOf_0 : decode cX5_crewOf 0 = .ok (.aload_n 0, 1) := by decide +kernel
theorem dX5_crewOf_1 : decode cX5_crewOf 1 = .ok (.getfield 10, 3) := by decide +kernel
theorem dX5_crewOf_4 : decode cX5_crewOf 4 = .ok (.iload_n 2, 1) := by decide +kernel
theorem dX5_crewOf_5 : decode cX5_crewOf 5 = .ok (.invokevirtual 106, 3) := by decide +kernel
theorem dX5_crewOf_8 : decode cX5_crewOf 8 = .ok (.astore_n 3, 1) := by decide +kernel
theorem dX5_crewOf_9 : decode cX5_crewOf 9 = .ok (.aload_n 3, 1) := by decide +kernel
theorem dX5_crewOf_10 : decode cX5_crewOf 10 = .ok (.ifnull 11, 3) := by decide +kernel
theorem dX5_crewOf_13 : decode cX5_crewOf 13 = .ok (.iload_n 1, 1) := by decide +kernel
theorem dX5_crewOf_14 : decode cX5_crewOf 14 = .ok (.iconst 4, 1) := by decide +kernel
theorem dX5_crewOf_15 : decode cX5_crewOf 15 = .ok (.invokestatic 57, 3) := by decide +kernel
theorem dX5_crewOf_18 : decode cX5_crewOf 18 = .ok (.ifCond .ne 9, 3) := by decide +kernel
theorem dX5_crewOf_21 : decode cX5_crewOf 21 = .ok (.aload_n 0, 1) := by decide +kernel
theorem dX5_crewOf_22 : decode cX5_crewOf 22 = .ok (.iconst 0, 1) := by decide +kernel
theorem dX5_crewOf_23 : decode cX5_crewOf 23 = .ok (.invokevirtual 61, 3) := by decide +kernel
theorem dX5_crewOf_26 : decode cX5_crewOf 26 = .ok (.ireturn, 1) := by decide +kernel
theorem dX5_crewOf_27 : decode cX5_crewOf 27 = .ok (.aload_n 3, 1) := by decide +kernel
theorem dX5_crewOf_28 : decode cX5_crewOf 28 = .ok (.iload_n 1, 1) := by decide +kernel
theorem dX5_crewOf_29 : decode cX5_crewOf 29 = .ok (.iaload, 1) := by decide +kernel
theorem dX5_crewOf_30 : decode cX5_crewOf 30 = .ok (.ireturn, 1) := by decide +kernel
theorem dX5_set_0 : decode cX5_set 0 = .ok (.iload_n 1, 1) := by decide +kernel
theorem dX5_set_1 : decode cX5_set 1 = .ok (.iconst 4, 1) := by decide +kernel
theorem dX5_set_2 : decode cX5_set 2 = .ok (.invokestatic 57, 3) := by decide +kernel
theorem dX5_set_5 : decode cX5_set 5 = .ok (.ifCond .eq 15, 3) := by decide +kernel
theorem dX5_set_8 : decode cX5_set 8 = .ok (.iload_n 2, 1) := by decide +kernel
theorem dX5_set_9 : decode cX5_set 9 = .ok (.getstatic 112, 3) := by decide +kernel
theorem dX5_set_12 : decode cX5_set 12 = .ok (.iload_n 1, 1) := by decide +kernel
theorem dX5_set_13 : decode cX5_set 13 = .ok (.iaload, 1) := by decide +kernel
theorem dX5_set_14 : decode cX5_set 14 = .ok (.invokestatic 99, 3) := by decide +kernel
theorem dX5_set_17 : decode cX5_set 17 = .ok (.ifCond .ne 9, 3) := by decide +kernel
theorem dX5_set_20 : decode cX5_set 20 = .ok (.aload_n 0, 1) := by decide +kernel
theorem dX5_set_21 : decode cX5_set 21 = .ok (.iconst 0, 1) := by decide +kernel
theorem dX5_set_22 : decode cX5_set 22 = .ok (.invokevirtual 61, 3) := by decide +kernel
theorem dX5_set_25 : decode cX5_set 25 = .ok (.ireturn, 1) := by decide +kernel
theorem dX5_set_26 : decode cX5_set 26 = .ok (.aload_n 0, 1) := by decide +kernel
theorem dX5_set_27 : decode cX5_set 27 = .ok (.getfield 10, 3) := by decide +kernel
theorem dX5_set_30 : decode cX5_set 30 = .ok (.getfield 83, 3) := by decide +kernel
theorem dX5_set_33 : decode cX5_set 33 = .ok (.iload_n 1, 1) := by decide +kernel
theorem dX5_set_34 : decode cX5_set 34 = .ok (.iload_n 2, 1) := by decide +kernel
theorem dX5_set_35 : decode cX5_set 35 = .ok (.invokestatic 102, 3) := by decide +kernel
theorem dX5_set_38 : decode cX5_set 38 = .ok (.ireturn, 1) := by decide +kernel
theorem dX5_apart_0 : decode cX5_apart 0 = .ok (.iload_n 1, 1) := by decide +kernel
theorem dX5_apart_1 : decode cX5_apart 1 = .ok (.bipush 100, 2) := by decide +kernel
theorem dX5_apart_3 : decode cX5_apart 3 = .ok (.invokestatic 57, 3) := by decide +kernel
theorem dX5_apart_6 : decode cX5_apart 6 = .ok (.ifCond .eq 12, 3) := by decide +kernel
theorem dX5_apart_9 : decode cX5_apart 9 = .ok (.iload_n 2, 1) := by decide +kernel
theorem dX5_apart_10 : decode cX5_apart 10 = .ok (.bipush 100, 2) := by decide +kernel
theorem dX5_apart_12 : decode cX5_apart 12 = .ok (.invokestatic 57, 3) := by decide +kernel
theorem dX5_apart_15 : decode cX5_apart 15 = .ok (.ifCond .ne 9, 3) := by decide +kernel
theorem dX5_apart_18 : decode cX5_apart 18 = .ok (.aload_n 0, 1) := by decide +kernel
theorem dX5_apart_19 : decode cX5_apart 19 = .ok (.iconst 0, 1) := by decide +kernel
theorem dX5_apart_20 : decode cX5_apart 20 = .ok (.invokevirtual 61, 3) := by decide +kernel
theorem dX5_apart_23 : decode cX5_apart 23 = .ok (.ireturn, 1) := by decide +kernel
theorem dX5_apart_24 : decode cX5_apart 24 = .ok (.iload_n 1, 1) := by decide +kernel
theorem dX5_apart_25 : decode cX5_apart 25 = .ok (.iload_n 2, 1) := by decide +kernel
theorem dX5_apart_26 : decode cX5_apart 26 = .ok (.invokestatic 115, 3) := by decide +kernel
theorem dX5_apart_29 : decode cX5_apart 29 = .ok (.ireturn, 1) := by decide +kernel
theorem dX5_go_0 : decode cX5_go 0 = .ok (.iload_n 1, 1) := by decide +kernel
theorem dX5_go_1 : decode cX5_go 1 = .ok (.iconst 1, 1) := by decide +kernel
theorem dX5_go_2 : decode cX5_go 2 = .ok (.if_icmp .lt 9, 3) := by decide +kernel
theorem dX5_go_5 : decode cX5_go 5 = .ok (.iload_n 1, 1) := by decide +kernel
theorem dX5_go_6 : decode cX5_go 6 = .ok (.bipush 60, 2) := by decide +kernel
theorem dX5_go_8 : decode cX5_go 8 = .ok (.if_icmp .le 9, 3) := by decide +kernel
theorem dX5_go_11 : decode cX5_go 11 = .ok (.aload_n 0, 1) := by decide +kernel
theorem dX5_go_12 : decode cX5_go 12 = .ok (.iconst 0, 1) := by decide +kernel
theorem dX5_go_13 : decode cX5_go 13 = .ok (.invokevirtual 61, 3) := by decide +kernel
theorem dX5_go_16 : decode cX5_go 16 = .ok (.ireturn, 1) := by decide +kernel
theorem dX5_go_17 : decode cX5_go 17 = .ok (.aload_n 0, 1) := by decide +kernel
theorem dX5_go_18 : decode cX5_go 18 = .ok (.getfield 10, 3) := by decide +kernel
theorem dX5_go_21 : decode cX5_go 21 = .ok (.getfield 119, 3) := by decide +kernel
theorem dX5_go_24 : decode cX5_go 24 = .ok (.iload_n 1, 1) := by decide +kernel
theorem dX5_go_25 : decode cX5_go 25 = .ok (.iadd, 1) := by decide +kernel
theorem dX5_go_26 : decode cX5_go 26 = .ok (.ldc 122, 2) := by decide +kernel
theorem dX5_go_28 : decode cX5_go 28 = .ok (.if_icmp .le 9, 3) := by decide +kernel
theorem dX5_go_31 : decode cX5_go 31 = .ok (.aload_n 0, 1) := by decide +kernel
theorem dX5_go_32 : decode cX5_go 32 = .ok (.iconst 4, 1) := by decide +kernel
theorem dX5_go_33 : decode cX5_go 33 = .ok (.invokevirtual 61, 3) := by decide +kernel
theorem dX5_go_36 : decode cX5_go 36 = .ok (.ireturn, 1) := by decide +kernel
theorem dX5_go_37 : decode cX5_go 37 = .ok (.iconst 0, 1) := by decide +kernel
theorem dX5_go_38 : decode cX5_go 38 = .ok (.istore_n 2, 1) := by decide +kernel
theorem dX5_go_39 : decode cX5_go 39 = .ok (.iload_n 2, 1) := by decide +kernel
theorem dX5_go_40 : decode cX5_go 40 = .ok (.iload_n 1, 1) := by decide +kernel
theorem dX5_go_41 : decode cX5_go 41 = .ok (.if_icmp .ge 16, 3) := by decide +kernel
theorem dX5_go_44 : decode cX5_go 44 = .ok (.aload_n 0, 1) := by decide +kernel
theorem dX5_go_45 : decode cX5_go 45 = .ok (.getfield 10, 3) := by decide +kernel
theorem dX5_go_48 : decode cX5_go 48 = .ok (.invokevirtual 123, 3) := by decide +kernel
theorem dX5_go_51 : decode cX5_go 51 = .ok (.iinc 2 1, 3) := by decide +kernel
theorem dX5_go_54 : decode cX5_go 54 = .ok (.goto (-15), 3) := by decide +kernel
theorem dX5_go_57 : decode cX5_go 57 = .ok (.aload_n 0, 1) := by decide +kernel
theorem dX5_go_58 : decode cX5_go 58 = .ok (.getfield 10, 3) := by decide +kernel
theorem dX5_go_61 : decode cX5_go 61 = .ok (.aload_n 0, 1) := by decide +kernel
theorem dX5_go_62 : decode cX5_go 62 = .ok (.getfield 10, 3) := by decide +kernel
theorem dX5_go_65 : decode cX5_go 65 = .ok (.getfield 80, 3) := by decide +kernel
theorem dX5_go_68 : decode cX5_go 68 = .ok (.invokevirtual 126, 3) := by decide +kernel
theorem dX5_go_71 : decode cX5_go 71 = .ok (.invokestatic 130, 3) := by decide +kernel
theorem dX5_go_74 : decode cX5_go 74 = .ok (.ireturn, 1) := by decide +kernel
theorem dX5_now_0 : decode cX5_now 0 = .ok (.iload_n 1, 1) := by decide +kernel
theorem dX5_now_1 : decode cX5_now 1 = .ok (.tableswitch 126 0 6 #[43, 51, 66, 74, 96, 106, 116], 43) := by decide +kernel
theorem dX5_now_44 : decode cX5_now 44 = .ok (.aload_n 0, 1) := by decide +kernel
theorem dX5_now_45 : decode cX5_now 45 = .ok (.getfield 10, 3) := by decide +kernel
theorem dX5_now_48 : decode cX5_now 48 = .ok (.getfield 119, 3) := by decide +kernel
theorem dX5_now_51 : decode cX5_now 51 = .ok (.ireturn, 1) := by decide +kernel
theorem dX5_now_52 : decode cX5_now 52 = .ok (.aload_n 0, 1) := by decide +kernel
theorem dX5_now_53 : decode cX5_now 53 = .ok (.getfield 10, 3) := by decide +kernel
theorem dX5_now_56 : decode cX5_now 56 = .ok (.aload_n 0, 1) := by decide +kernel
theorem dX5_now_57 : decode cX5_now 57 = .ok (.getfield 10, 3) := by decide +kernel
theorem dX5_now_60 : decode cX5_now 60 = .ok (.getfield 80, 3) := by decide +kernel
theorem dX5_now_63 : decode cX5_now 63 = .ok (.invokevirtual 126, 3) := by decide +kernel
theorem dX5_now_66 : decode cX5_now 66 = .ok (.ireturn, 1) := by decide +kernel
theorem dX5_now_67 : decode cX5_now 67 = .ok (.aload_n 0, 1) := by decide +kernel
theorem dX5_now_68 : decode cX5_now 68 = .ok (.getfield 10, 3) := by decide +kernel
theorem dX5_now_71 : decode cX5_now 71 = .ok (.invokevirtual 135, 3) := by decide +kernel
theorem dX5_now_74 : decode cX5_now 74 = .ok (.ireturn, 1) := by decide +kernel
theorem dX5_now_75 : decode cX5_now 75 = .ok (.aload_n 0, 1) := by decide +kernel
theorem dX5_now_76 : decode cX5_now 76 = .ok (.getfield 10, 3) := by decide +kernel
theorem dX5_now_79 : decode cX5_now 79 = .ok (.aload_n 0, 1) := by decide +kernel
theorem dX5_now_80 : decode cX5_now 80 = .ok (.getfield 10, 3) := by decide +kernel
theorem dX5_now_83 : decode cX5_now 83 = .ok (.aload_n 0, 1) := by decide +kernel
theorem dX5_now_84 : decode cX5_now 84 = .ok (.getfield 10, 3) := by decide +kernel
theorem dX5_now_87 : decode cX5_now 87 = .ok (.getfield 80, 3) := by decide +kernel
theorem dX5_now_90 : decode cX5_now 90 = .ok (.invokevirtual 126, 3) := by decide +kernel
theorem dX5_now_93 : decode cX5_now 93 = .ok (.invokevirtual 139, 3) := by decide +kernel
theorem dX5_now_96 : decode cX5_now 96 = .ok (.ireturn, 1) := by decide +kernel
theorem dX5_now_97 : decode cX5_now 97 = .ok (.aload_n 0, 1) := by decide +kernel
theorem dX5_now_98 : decode cX5_now 98 = .ok (.getfield 10, 3) := by decide +kernel
theorem dX5_now_101 : decode cX5_now 101 = .ok (.getfield 83, 3) := by decide +kernel
theorem dX5_now_104 : decode cX5_now 104 = .ok (.iconst 3, 1) := by decide +kernel
theorem dX5_now_105 : decode cX5_now 105 = .ok (.iaload, 1) := by decide +kernel
theorem dX5_now_106 : decode cX5_now 106 = .ok (.ireturn, 1) := by decide +kernel
theorem dX5_now_107 : decode cX5_now 107 = .ok (.aload_n 0, 1) := by decide +kernel
theorem dX5_now_108 : decode cX5_now 108 = .ok (.getfield 10, 3) := by decide +kernel
theorem dX5_now_111 : decode cX5_now 111 = .ok (.getfield 83, 3) := by decide +kernel
theorem dX5_now_114 : decode cX5_now 114 = .ok (.iconst 0, 1) := by decide +kernel
theorem dX5_now_115 : decode cX5_now 115 = .ok (.iaload, 1) := by decide +kernel
theorem dX5_now_116 : decode cX5_now 116 = .ok (.ireturn, 1) := by decide +kernel
theorem dX5_now_117 : decode cX5_now 117 = .ok (.aload_n 0, 1) := by decide +kernel
theorem dX5_now_118 : decode cX5_now 118 = .ok (.getfield 10, 3) := by decide +kernel
theorem dX5_now_121 : decode cX5_now 121 = .ok (.getfield 83, 3) := by decide +kernel
theorem dX5_now_124 : decode cX5_now 124 = .ok (.iconst 1, 1) := by decide +kernel
theorem dX5_now_125 : decode cX5_now 125 = .ok (.iaload, 1) := by decide +kernel
theorem dX5_now_126 : decode cX5_now 126 = .ok (.ireturn, 1) := by decide +kernel
theorem dX5_now_127 : decode cX5_now 127 = .ok (.aload_n 0, 1) := by decide +kernel
theorem dX5_now_128 : decode cX5_now 128 = .ok (.iconst 0, 1) := by decide +kernel
theorem dX5_now_129 : decode cX5_now 129 = .ok (.invokevirtual 61, 3) := by decide +kernel
theorem dX5_now_132 : decode cX5_now 132 = .ok (.ireturn, 1) := by decide +kernel
theorem dX5_mends_0 : decode cX5_mends 0 = .ok (.iload_n 1, 1) := by decide +kernel
theorem dX5_mends_1 : decode cX5_mends 1 = .ok (.iconst 4, 1) := by decide +kernel
theorem dX5_mends_2 : decode cX5_mends 2 = .ok (.invokestatic 57, 3) := by decide +kernel
theorem dX5_mends_5 : decode cX5_mends 5 = .ok (.ifCond .eq 17, 3) := by decide +kernel
theorem dX5_mends_8 : decode cX5_mends 8 = .ok (.iload_n 2, 1) := by decide +kernel
theorem dX5_mends_9 : decode cX5_mends 9 = .ok (.aload_n 0, 1) := by decide +kernel
theorem dX5_mends_10 : decode cX5_mends 10 = .ok (.getfield 10, 3) := by decide +kernel
theorem dX5_mends_13 : decode cX5_mends 13 = .ok (.getfield 65, 3) := by decide +kernel
theorem dX5_mends_16 : decode cX5_mends 16 = .ok (.invokestatic 57, 3) := by decide +kernel
theorem dX5_mends_19 : decode cX5_mends 19 = .ok (.ifCond .ne 9, 3) := by decide +kernel
theorem dX5_mends_22 : decode cX5_mends 22 = .ok (.aload_n 0, 1) := by decide +kernel
theorem dX5_mends_23 : decode cX5_mends 23 = .ok (.iconst 0, 1) := by decide +kernel
theorem dX5_mends_24 : decode cX5_mends 24 = .ok (.invokevirtual 61, 3) := by decide +kernel
theorem dX5_mends_27 : decode cX5_mends 27 = .ok (.ireturn, 1) := by decide +kernel
theorem dX5_mends_28 : decode cX5_mends 28 = .ok (.aload_n 0, 1) := by decide +kernel
theorem dX5_mends_29 : decode cX5_mends 29 = .ok (.getfield 10, 3) := by decide +kernel
theorem dX5_mends_32 : decode cX5_mends 32 = .ok (.getfield 83, 3) := by decide +kernel
theorem dX5_mends_35 : decode cX5_mends 35 = .ok (.iconst 3, 1) := by decide +kernel
theorem dX5_mends_36 : decode cX5_mends 36 = .ok (.iaload, 1) := by decide +kernel
theorem dX5_mends_37 : decode cX5_mends 37 = .ok (.iconst 1, 1) := by decide +kernel
theorem dX5_mends_38 : decode cX5_mends 38 = .ok (.if_icmp .ge 9, 3) := by decide +kernel
theorem dX5_mends_41 : decode cX5_mends 41 = .ok (.aload_n 0, 1) := by decide +kernel
theorem dX5_mends_42 : decode cX5_mends 42 = .ok (.iconst 4, 1) := by decide +kernel
theorem dX5_mends_43 : decode cX5_mends 43 = .ok (.invokevirtual 61, 3) := by decide +kernel
theorem dX5_mends_46 : decode cX5_mends 46 = .ok (.ireturn, 1) := by decide +kernel
theorem dX5_mends_47 : decode cX5_mends 47 = .ok (.aload_n 0, 1) := by decide +kernel
theorem dX5_mends_48 : decode cX5_mends 48 = .ok (.getfield 10, 3) := by decide +kernel
theorem dX5_mends_51 : decode cX5_mends 51 = .ok (.getfield 83, 3) := by decide +kernel
theorem dX5_mends_54 : decode cX5_mends 54 = .ok (.iconst 3, 1) := by decide +kernel
theorem dX5_mends_55 : decode cX5_mends 55 = .ok (.dup2, 1) := by decide +kernel
theorem dX5_mends_56 : decode cX5_mends 56 = .ok (.iaload, 1) := by decide +kernel
theorem dX5_mends_57 : decode cX5_mends 57 = .ok (.iconst 1, 1) := by decide +kernel
theorem dX5_mends_58 : decode cX5_mends 58 = .ok (.isub, 1) := by decide +kernel
theorem dX5_mends_59 : decode cX5_mends 59 = .ok (.iastore, 1) := by decide +kernel
theorem dX5_mends_60 : decode cX5_mends 60 = .ok (.aload_n 0, 1) := by decide +kernel
theorem dX5_mends_61 : decode cX5_mends 61 = .ok (.getfield 10, 3) := by decide +kernel
theorem dX5_mends_64 : decode cX5_mends 64 = .ok (.getfield 80, 3) := by decide +kernel
theorem dX5_mends_67 : decode cX5_mends 67 = .ok (.iload_n 2, 1) := by decide +kernel
theorem dX5_mends_68 : decode cX5_mends 68 = .ok (.bipush 99, 2) := by decide +kernel
theorem dX5_mends_70 : decode cX5_mends 70 = .ok (.iastore, 1) := by decide +kernel
theorem dX5_mends_71 : decode cX5_mends 71 = .ok (.aload_n 0, 1) := by decide +kernel
theorem dX5_mends_72 : decode cX5_mends 72 = .ok (.getfield 10, 3) := by decide +kernel
theorem dX5_mends_75 : decode cX5_mends 75 = .ok (.getfield 142, 3) := by decide +kernel
theorem dX5_mends_78 : decode cX5_mends 78 = .ok (.iload_n 1, 1) := by decide +kernel
theorem dX5_mends_79 : decode cX5_mends 79 = .ok (.aload_n 0, 1) := by decide +kernel
theorem dX5_mends_80 : decode cX5_mends 80 = .ok (.getfield 10, 3) := by decide +kernel
theorem dX5_mends_83 : decode cX5_mends 83 = .ok (.getfield 145, 3) := by decide +kernel
theorem dX5_mends_86 : decode cX5_mends 86 = .ok (.iload_n 2, 1) := by decide +kernel
theorem dX5_mends_87 : decode cX5_mends 87 = .ok (.iaload, 1) := by decide +kernel
theorem dX5_mends_88 : decode cX5_mends 88 = .ok (.invokestatic 102, 3) := by decide +kernel
theorem dX5_mends_91 : decode cX5_mends 91 = .ok (.istore_n 3, 1) := by decide +kernel
theorem dX5_mends_92 : decode cX5_mends 92 = .ok (.iload_n 3, 1) := by decide +kernel
theorem dX5_mends_93 : decode cX5_mends 93 = .ok (.aload_n 0, 1) := by decide +kernel
theorem dX5_mends_94 : decode cX5_mends 94 = .ok (.getfield 10, 3) := by decide +kernel
theorem dX5_mends_97 : decode cX5_mends 97 = .ok (.getfield 145, 3) := by decide +kernel
theorem dX5_mends_100 : decode cX5_mends 100 = .ok (.iload_n 2, 1) := by decide +kernel
theorem dX5_mends_101 : decode cX5_mends 101 = .ok (.iaload, 1) := by decide +kernel
theorem dX5_mends_102 : decode cX5_mends 102 = .ok (.invokestatic 115, 3) := by decide +kernel
theorem dX5_mends_105 : decode cX5_mends 105 = .ok (.ireturn, 1) := by decide +kernel
theorem dX5_ahead_0 : decode cX5_ahead 0 = .ok (.iload_n 1, 1) := by decide +kernel
theorem dX5_ahead_1 : decode cX5_ahead 1 = .ok (.aload_n 0, 1) := by decide +kernel
theorem dX5_ahead_2 : decode cX5_ahead 2 = .ok (.getfield 10, 3) := by decide +kernel
theorem dX5_ahead_5 : decode cX5_ahead 5 = .ok (.getfield 65, 3) := by decide +kernel
theorem dX5_ahead_8 : decode cX5_ahead 8 = .ok (.invokestatic 57, 3) := by decide +kernel
theorem dX5_ahead_11 : decode cX5_ahead 11 = .ok (.ifCond .eq 13, 3) := by decide +kernel
theorem dX5_ahead_14 : decode cX5_ahead 14 = .ok (.iload_n 2, 1) := by decide +kernel
theorem dX5_ahead_15 : decode cX5_ahead 15 = .ok (.sipush 200, 3) := by decide +kernel
theorem dX5_ahead_18 : decode cX5_ahead 18 = .ok (.invokestatic 99, 3) := by decide +kernel
theorem dX5_ahead_21 : decode cX5_ahead 21 = .ok (.ifCond .ne 9, 3) := by decide +kernel
theorem dX5_ahead_24 : decode cX5_ahead 24 = .ok (.aload_n 0, 1) := by decide +kernel
theorem dX5_ahead_25 : decode cX5_ahead 25 = .ok (.iconst 0, 1) := by decide +kernel
theorem dX5_ahead_26 : decode cX5_ahead 26 = .ok (.invokevirtual 61, 3) := by decide +kernel
theorem dX5_ahead_29 : decode cX5_ahead 29 = .ok (.ireturn, 1) := by decide +kernel
theorem dX5_ahead_30 : decode cX5_ahead 30 = .ok (.aload_n 0, 1) := by decide +kernel
theorem dX5_ahead_31 : decode cX5_ahead 31 = .ok (.getfield 10, 3) := by decide +kernel
theorem dX5_ahead_34 : decode cX5_ahead 34 = .ok (.iload_n 1, 1) := by decide +kernel
theorem dX5_ahead_35 : decode cX5_ahead 35 = .ok (.aload_n 0, 1) := by decide +kernel
theorem dX5_ahead_36 : decode cX5_ahead 36 = .ok (.getfield 10, 3) := by decide +kernel
theorem dX5_ahead_39 : decode cX5_ahead 39 = .ok (.getfield 83, 3) := by decide +kernel
theorem dX5_ahead_42 : decode cX5_ahead 42 = .ok (.iconst 0, 1) := by decide +kernel
theorem dX5_ahead_43 : decode cX5_ahead 43 = .ok (.iaload, 1) := by decide +kernel
theorem dX5_ahead_44 : decode cX5_ahead 44 = .ok (.iload_n 2, 1) := by decide +kernel
theorem dX5_ahead_45 : decode cX5_ahead 45 = .ok (.invokevirtual 148, 3) := by decide +kernel
theorem dX5_ahead_48 : decode cX5_ahead 48 = .ok (.ireturn, 1) := by decide +kernel
theorem dX5_lasts_0 : decode cX5_lasts 0 = .ok (.iload_n 1, 1) := by decide +kernel
theorem dX5_lasts_1 : decode cX5_lasts 1 = .ok (.aload_n 0, 1) := by decide +kernel
theorem dX5_lasts_2 : decode cX5_lasts 2 = .ok (.getfield 10, 3) := by decide +kernel
theorem dX5_lasts_5 : decode cX5_lasts 5 = .ok (.getfield 65, 3) := by decide +kernel
theorem dX5_lasts_8 : decode cX5_lasts 8 = .ok (.invokestatic 57, 3) := by decide +kernel
theorem dX5_lasts_11 : decode cX5_lasts 11 = .ok (.ifCond .ne 9, 3) := by decide +kernel
theorem dX5_lasts_14 : decode cX5_lasts 14 = .ok (.aload_n 0, 1) := by decide +kernel
theorem dX5_lasts_15 : decode cX5_lasts 15 = .ok (.iconst 0, 1) := by decide +kernel
theorem dX5_lasts_16 : decode cX5_lasts 16 = .ok (.invokevirtual 61, 3) := by decide +kernel
theorem dX5_lasts_19 : decode cX5_lasts 19 = .ok (.ireturn, 1) := by decide +kernel
theorem dX5_lasts_20 : decode cX5_lasts 20 = .ok (.aload_n 0, 1) := by decide +kernel
theorem dX5_lasts_21 : decode cX5_lasts 21 = .ok (.getfield 10, 3) := by decide +kernel
theorem dX5_lasts_24 : decode cX5_lasts 24 = .ok (.iload_n 1, 1) := by decide +kernel
theorem dX5_lasts_25 : decode cX5_lasts 25 = .ok (.aload_n 0, 1) := by decide +kernel
theorem dX5_lasts_26 : decode cX5_lasts 26 = .ok (.getfield 10, 3) := by decide +kernel
theorem dX5_lasts_29 : decode cX5_lasts 29 = .ok (.getfield 77, 3) := by decide +kernel
theorem dX5_lasts_32 : decode cX5_lasts 32 = .ok (.iload_n 1, 1) := by decide +kernel
theorem dX5_lasts_33 : decode cX5_lasts 33 = .ok (.iaload, 1) := by decide +kernel
theorem dX5_lasts_34 : decode cX5_lasts 34 = .ok (.invokevirtual 151, 3) := by decide +kernel
theorem dX5_lasts_37 : decode cX5_lasts 37 = .ok (.istore_n 2, 1) := by decide +kernel
theorem dX5_lasts_38 : decode cX5_lasts 38 = .ok (.iload_n 2, 1) := by decide +kernel
theorem dX5_lasts_39 : decode cX5_lasts 39 = .ok (.sipush 200, 3) := by decide +kernel
theorem dX5_lasts_42 : decode cX5_lasts 42 = .ok (.if_icmp .le 11, 3) := by decide +kernel
theorem dX5_lasts_45 : decode cX5_lasts 45 = .ok (.aload_n 0, 1) := by decide +kernel
theorem dX5_lasts_46 : decode cX5_lasts 46 = .ok (.iconst 3, 1) := by decide +kernel
theorem dX5_lasts_47 : decode cX5_lasts 47 = .ok (.invokevirtual 61, 3) := by decide +kernel
theorem dX5_lasts_50 : decode cX5_lasts 50 = .ok (.goto 4, 3) := by decide +kernel
theorem dX5_lasts_53 : decode cX5_lasts 53 = .ok (.iload_n 2, 1) := by decide +kernel
theorem dX5_lasts_54 : decode cX5_lasts 54 = .ok (.ireturn, 1) := by decide +kernel
theorem dX5_shine_0 : decode cX5_shine 0 = .ok (.iload_n 1, 1) := by decide +kernel
theorem dX5_shine_1 : decode cX5_shine 1 = .ok (.sipush 200, 3) := by decide +kernel
theorem dX5_shine_4 : decode cX5_shine 4 = .ok (.invokestatic 99, 3) := by decide +kernel
theorem dX5_shine_7 : decode cX5_shine 7 = .ok (.ifCond .ne 9, 3) := by decide +kernel
theorem dX5_shine_10 : decode cX5_shine 10 = .ok (.aload_n 0, 1) := by decide +kernel
theorem dX5_shine_11 : decode cX5_shine 11 = .ok (.iconst 0, 1) := by decide +kernel
theorem dX5_shine_12 : decode cX5_shine 12 = .ok (.invokevirtual 61, 3) := by decide +kernel
theorem dX5_shine_15 : decode cX5_shine 15 = .ok (.ireturn, 1) := by decide +kernel
theorem dX5_shine_16 : decode cX5_shine 16 = .ok (.aload_n 0, 1) := by decide +kernel
theorem dX5_shine_17 : decode cX5_shine 17 = .ok (.invokevirtual 154, 3) := by decide +kernel
theorem dX5_shine_20 : decode cX5_shine 20 = .ok (.iconst 0, 1) := by decide +kernel
theorem dX5_shine_21 : decode cX5_shine 21 = .ok (.istore_n 2, 1) := by decide +kernel
theorem dX5_shine_22 : decode cX5_shine 22 = .ok (.iload_n 2, 1) := by decide +kernel
theorem dX5_shine_23 : decode cX5_shine 23 = .ok (.iload_n 1, 1) := by decide +kernel
theorem dX5_shine_24 : decode cX5_shine 24 = .ok (.if_icmp .ge 20, 3) := by decide +kernel
theorem dX5_shine_27 : decode cX5_shine 27 = .ok (.aload_n 0, 1) := by decide +kernel
theorem dX5_shine_28 : decode cX5_shine 28 = .ok (.getfield 10, 3) := by decide +kernel
theorem dX5_shine_31 : decode cX5_shine 31 = .ok (.aload_n 0, 1) := by decide +kernel
theorem dX5_shine_32 : decode cX5_shine 32 = .ok (.getfield 49, 3) := by decide +kernel
theorem dX5_shine_35 : decode cX5_shine 35 = .ok (.invokevirtual 157, 3) := by decide +kernel
theorem dX5_shine_38 : decode cX5_shine 38 = .ok (.iinc 2 1, 3) := by decide +kernel
theorem dX5_shine_41 : decode cX5_shine 41 = .ok (.goto (-19), 3) := by decide +kernel
theorem dX5_shine_44 : decode cX5_shine 44 = .ok (.aload_n 0, 1) := by decide +kernel
theorem dX5_shine_45 : decode cX5_shine 45 = .ok (.getfield 10, 3) := by decide +kernel
theorem dX5_shine_48 : decode cX5_shine 48 = .ok (.aload_n 0, 1) := by decide +kernel
theorem dX5_shine_49 : decode cX5_shine 49 = .ok (.getfield 49, 3) := by decide +kernel
theorem dX5_shine_52 : decode cX5_shine 52 = .ok (.invokevirtual 126, 3) := by decide +kernel
theorem dX5_shine_55 : decode cX5_shine 55 = .ok (.ireturn, 1) := by decide +kernel
theorem dX5_dark_0 : decode cX5_dark 0 = .ok (.iload_n 1, 1) := by decide +kernel
theorem dX5_dark_1 : decode cX5_dark 1 = .ok (.iconst 1, 1) := by decide +kernel
theorem dX5_dark_2 : decode cX5_dark 2 = .ok (.if_icmp .lt 9, 3) := by decide +kernel
theorem dX5_dark_5 : decode cX5_dark 5 = .ok (.iload_n 1, 1) := by decide +kernel
theorem dX5_dark_6 : decode cX5_dark 6 = .ok (.bipush 10, 2) := by decide +kernel
theorem dX5_dark_8 : decode cX5_dark 8 = .ok (.if_icmp .le 9, 3) := by decide +kernel
theorem dX5_dark_11 : decode cX5_dark 11 = .ok (.aload_n 0, 1) := by decide +kernel
theorem dX5_dark_12 : decode cX5_dark 12 = .ok (.iconst 0, 1) := by decide +kernel
theorem dX5_dark_13 : decode cX5_dark 13 = .ok (.invokevirtual 61, 3) := by decide +kernel
theorem dX5_dark_16 : decode cX5_dark 16 = .ok (.ireturn, 1) := by decide +kernel
theorem dX5_dark_17 : decode cX5_dark 17 = .ok (.aload_n 0, 1) := by decide +kernel
theorem dX5_dark_18 : decode cX5_dark 18 = .ok (.invokevirtual 154, 3) := by decide +kernel
theorem dX5_dark_21 : decode cX5_dark 21 = .ok (.iconst 0, 1) := by decide +kernel
theorem dX5_dark_22 : decode cX5_dark 22 = .ok (.istore_n 2, 1) := by decide +kernel
theorem dX5_dark_23 : decode cX5_dark 23 = .ok (.iload_n 2, 1) := by decide +kernel
theorem dX5_dark_24 : decode cX5_dark 24 = .ok (.sipush 200, 3) := by decide +kernel
theorem dX5_dark_27 : decode cX5_dark 27 = .ok (.if_icmp .gt 40, 3) := by decide +kernel
theorem dX5_dark_30 : decode cX5_dark 30 = .ok (.aload_n 0, 1) := by decide +kernel
theorem dX5_dark_31 : decode cX5_dark 31 = .ok (.getfield 10, 3) := by decide +kernel
theorem dX5_dark_34 : decode cX5_dark 34 = .ok (.aload_n 0, 1) := by decide +kernel
theorem dX5_dark_35 : decode cX5_dark 35 = .ok (.getfield 49, 3) := by decide +kernel
theorem dX5_dark_38 : decode cX5_dark 38 = .ok (.invokevirtual 126, 3) := by decide +kernel
theorem dX5_dark_41 : decode cX5_dark 41 = .ok (.invokestatic 130, 3) := by decide +kernel
theorem dX5_dark_44 : decode cX5_dark 44 = .ok (.iload_n 1, 1) := by decide +kernel
theorem dX5_dark_45 : decode cX5_dark 45 = .ok (.if_icmp .ge 5, 3) := by decide +kernel
theorem dX5_dark_48 : decode cX5_dark 48 = .ok (.iload_n 2, 1) := by decide +kernel
theorem dX5_dark_49 : decode cX5_dark 49 = .ok (.ireturn, 1) := by decide +kernel
theorem dX5_dark_50 : decode cX5_dark 50 = .ok (.aload_n 0, 1) := by decide +kernel
theorem dX5_dark_51 : decode cX5_dark 51 = .ok (.getfield 10, 3) := by decide +kernel
theorem dX5_dark_54 : decode cX5_dark 54 = .ok (.aload_n 0, 1) := by decide +kernel
theorem dX5_dark_55 : decode cX5_dark 55 = .ok (.getfield 49, 3) := by decide +kernel
theorem dX5_dark_58 : decode cX5_dark 58 = .ok (.invokevirtual 157, 3) := by decide +kernel
theorem dX5_dark_61 : decode cX5_dark 61 = .ok (.iinc 2 1, 3) := by decide +kernel
theorem dX5_dark_64 : decode cX5_dark 64 = .ok (.goto (-41), 3) := by decide +kernel
theorem dX5_dark_67 : decode cX5_dark 67 = .ok (.aload_n 0, 1) := by decide +kernel
theorem dX5_dark_68 : decode cX5_dark 68 = .ok (.iconst 3, 1) := by decide +kernel
theorem dX5_dark_69 : decode cX5_dark 69 = .ok (.invokevirtual 61, 3) := by decide +kernel
theorem dX5_dark_72 : decode cX5_dark 72 = .ok (.ireturn, 1) := by decide +kernel
theorem dX5_kindFor_0 : decode cX5_kindFor 0 = .ok (.iload_n 1, 1) := by decide +kernel
theorem dX5_kindFor_1 : decode cX5_kindFor 1 = .ok (.aload_n 0, 1) := by decide +kernel
theorem dX5_kindFor_2 : decode cX5_kindFor 2 = .ok (.getfield 10, 3) := by decide +kernel
theorem dX5_kindFor_5 : decode cX5_kindFor 5 = .ok (.getfield 65, 3) := by decide +kernel
theorem dX5_kindFor_8 : decode cX5_kindFor 8 = .ok (.invokestatic 57, 3) := by decide +kernel
theorem dX5_kindFor_11 : decode cX5_kindFor 11 = .ok (.ifCond .ne 9, 3) := by decide +kernel
theorem dX5_kindFor_14 : decode cX5_kindFor 14 = .ok (.aload_n 0, 1) := by decide +kernel
theorem dX5_kindFor_15 : decode cX5_kindFor 15 = .ok (.iconst 0, 1) := by decide +kernel
theorem dX5_kindFor_16 : decode cX5_kindFor 16 = .ok (.invokevirtual 61, 3) := by decide +kernel
theorem dX5_kindFor_19 : decode cX5_kindFor 19 = .ok (.ireturn, 1) := by decide +kernel
theorem dX5_kindFor_20 : decode cX5_kindFor 20 = .ok (.iconst (-1), 1) := by decide +kernel
theorem dX5_kindFor_21 : decode cX5_kindFor 21 = .ok (.istore_n 2, 1) := by decide +kernel
theorem dX5_kindFor_22 : decode cX5_kindFor 22 = .ok (.iconst 0, 1) := by decide +kernel
theorem dX5_kindFor_23 : decode cX5_kindFor 23 = .ok (.istore_n 3, 1) := by decide +kernel
theorem dX5_kindFor_24 : decode cX5_kindFor 24 = .ok (.iconst 0, 1) := by decide +kernel
theorem dX5_kindFor_25 : decode cX5_kindFor 25 = .ok (.istore 4, 2) := by decide +kernel
theorem dX5_kindFor_27 : decode cX5_kindFor 27 = .ok (.iload 4, 2) := by decide +kernel
theorem dX5_kindFor_29 : decode cX5_kindFor 29 = .ok (.bipush 7, 2) := by decide +kernel
theorem dX5_kindFor_31 : decode cX5_kindFor 31 = .ok (.if_icmp .ge 39, 3) := by decide +kernel
theorem dX5_kindFor_34 : decode cX5_kindFor 34 = .ok (.sipush 200, 3) := by decide +kernel
theorem dX5_kindFor_37 : decode cX5_kindFor 37 = .ok (.aload_n 0, 1) := by decide +kernel
theorem dX5_kindFor_38 : decode cX5_kindFor 38 = .ok (.getfield 10, 3) := by decide +kernel
theorem dX5_kindFor_41 : decode cX5_kindFor 41 = .ok (.iload_n 1, 1) := by decide +kernel
theorem dX5_kindFor_42 : decode cX5_kindFor 42 = .ok (.iload 4, 2) := by decide +kernel
theorem dX5_kindFor_44 : decode cX5_kindFor 44 = .ok (.invokevirtual 151, 3) := by decide +kernel
theorem dX5_kindFor_47 : decode cX5_kindFor 47 = .ok (.invokestatic 161, 3) := by decide +kernel
theorem dX5_kindFor_50 : decode cX5_kindFor 50 = .ok (.istore 5, 2) := by decide +kernel
theorem dX5_kindFor_52 : decode cX5_kindFor 52 = .ok (.iload 5, 2) := by decide +kernel
theorem dX5_kindFor_54 : decode cX5_kindFor 54 = .ok (.iload_n 2, 1) := by decide +kernel
theorem dX5_kindFor_55 : decode cX5_kindFor 55 = .ok (.if_icmp .le 9, 3) := by decide +kernel
theorem dX5_kindFor_58 : decode cX5_kindFor 58 = .ok (.iload 5, 2) := by decide +kernel
theorem dX5_kindFor_60 : decode cX5_kindFor 60 = .ok (.istore_n 2, 1) := by decide +kernel
theorem dX5_kindFor_61 : decode cX5_kindFor 61 = .ok (.iload 4, 2) := by decide +kernel
theorem dX5_kindFor_63 : decode cX5_kindFor 63 = .ok (.istore_n 3, 1) := by decide +kernel
theorem dX5_kindFor_64 : decode cX5_kindFor 64 = .ok (.iinc 4 1, 3) := by decide +kernel
theorem dX5_kindFor_67 : decode cX5_kindFor 67 = .ok (.goto (-40), 3) := by decide +kernel
theorem dX5_kindFor_70 : decode cX5_kindFor 70 = .ok (.iload_n 3, 1) := by decide +kernel
theorem dX5_kindFor_71 : decode cX5_kindFor 71 = .ok (.ireturn, 1) := by decide +kernel
theorem dX5_dustFor_0 : decode cX5_dustFor 0 = .ok (.iload_n 1, 1) := by decide +kernel
theorem dX5_dustFor_1 : decode cX5_dustFor 1 = .ok (.aload_n 0, 1) := by decide +kernel
theorem dX5_dustFor_2 : decode cX5_dustFor 2 = .ok (.getfield 10, 3) := by decide +kernel
theorem dX5_dustFor_5 : decode cX5_dustFor 5 = .ok (.getfield 65, 3) := by decide +kernel
theorem dX5_dustFor_8 : decode cX5_dustFor 8 = .ok (.invokestatic 57, 3) := by decide +kernel
theorem dX5_dustFor_11 : decode cX5_dustFor 11 = .ok (.ifCond .eq 13, 3) := by decide +kernel
theorem dX5_dustFor_14 : decode cX5_dustFor 14 = .ok (.iload_n 2, 1) := by decide +kernel
theorem dX5_dustFor_15 : decode cX5_dustFor 15 = .ok (.sipush 200, 3) := by decide +kernel
theorem dX5_dustFor_18 : decode cX5_dustFor 18 = .ok (.invokestatic 99, 3) := by decide +kernel
theorem dX5_dustFor_21 : decode cX5_dustFor 21 = .ok (.ifCond .ne 9, 3) := by decide +kernel
theorem dX5_dustFor_24 : decode cX5_dustFor 24 = .ok (.aload_n 0, 1) := by decide +kernel
theorem dX5_dustFor_25 : decode cX5_dustFor 25 = .ok (.iconst 0, 1) := by decide +kernel
theorem dX5_dustFor_26 : decode cX5_dustFor 26 = .ok (.invokevirtual 61, 3) := by decide +kernel
theorem dX5_dustFor_29 : decode cX5_dustFor 29 = .ok (.ireturn, 1) := by decide +kernel
theorem dX5_dustFor_30 : decode cX5_dustFor 30 = .ok (.getstatic 112, 3) := by decide +kernel
theorem dX5_dustFor_33 : decode cX5_dustFor 33 = .ok (.iconst 0, 1) := by decide +kernel
theorem dX5_dustFor_34 : decode cX5_dustFor 34 = .ok (.iaload, 1) := by decide +kernel
theorem dX5_dustFor_35 : decode cX5_dustFor 35 = .ok (.istore_n 3, 1) := by decide +kernel
theorem dX5_dustFor_36 : decode cX5_dustFor 36 = .ok (.iload_n 3, 1) := by decide +kernel
theorem dX5_dustFor_37 : decode cX5_dustFor 37 = .ok (.ifCond .lt 40, 3) := by decide +kernel
theorem dX5_dustFor_40 : decode cX5_dustFor 40 = .ok (.aload_n 0, 1) := by decide +kernel
theorem dX5_dustFor_41 : decode cX5_dustFor 41 = .ok (.getfield 10, 3) := by decide +kernel
theorem dX5_dustFor_44 : decode cX5_dustFor 44 = .ok (.aload_n 0, 1) := by decide +kernel
theorem dX5_dustFor_45 : decode cX5_dustFor 45 = .ok (.getfield 10, 3) := by decide +kernel
theorem dX5_dustFor_48 : decode cX5_dustFor 48 = .ok (.getfield 77, 3) := by decide +kernel
theorem dX5_dustFor_51 : decode cX5_dustFor 51 = .ok (.iload_n 1, 1) := by decide +kernel
theorem dX5_dustFor_52 : decode cX5_dustFor 52 = .ok (.iaload, 1) := by decide +kernel
theorem dX5_dustFor_53 : decode cX5_dustFor 53 = .ok (.aload_n 0, 1) := by decide +kernel
theorem dX5_dustFor_54 : decode cX5_dustFor 54 = .ok (.getfield 10, 3) := by decide +kernel
theorem dX5_dustFor_57 : decode cX5_dustFor 57 = .ok (.iload_n 1, 1) := by decide +kernel
theorem dX5_dustFor_58 : decode cX5_dustFor 58 = .ok (.iload_n 3, 1) := by decide +kernel
theorem dX5_dustFor_59 : decode cX5_dustFor 59 = .ok (.iload_n 2, 1) := by decide +kernel
theorem dX5_dustFor_60 : decode cX5_dustFor 60 = .ok (.invokevirtual 148, 3) := by decide +kernel
theorem dX5_dustFor_63 : decode cX5_dustFor 63 = .ok (.invokevirtual 93, 3) := by decide +kernel
theorem dX5_dustFor_66 : decode cX5_dustFor 66 = .ok (.ifCond .eq 5, 3) := by decide +kernel
theorem dX5_dustFor_69 : decode cX5_dustFor 69 = .ok (.iload_n 3, 1) := by decide +kernel
theorem dX5_dustFor_70 : decode cX5_dustFor 70 = .ok (.ireturn, 1) := by decide +kernel
theorem dX5_dustFor_71 : decode cX5_dustFor 71 = .ok (.iinc 3 (-1), 3) := by decide +kernel
theorem dX5_dustFor_74 : decode cX5_dustFor 74 = .ok (.goto (-38), 3) := by decide +kernel
theorem dX5_dustFor_77 : decode cX5_dustFor 77 = .ok (.aload_n 0, 1) := by decide +kernel
theorem dX5_dustFor_78 : decode cX5_dustFor 78 = .ok (.iconst 3, 1) := by decide +kernel
theorem dX5_dustFor_79 : decode cX5_dustFor 79 = .ok (.invokevirtual 61, 3) := by decide +kernel
theorem dX5_dustFor_82 : decode cX5_dustFor 82 = .ok (.ireturn, 1) := by decide +kernel
theorem dX5_uses_0 : decode cX5_uses 0 = .ok (.iload_n 1, 1) := by decide +kernel
theorem dX5_uses_1 : decode cX5_uses 1 = .ok (.sipush 200, 3) := by decide +kernel
theorem dX5_uses_4 : decode cX5_uses 4 = .ok (.invokestatic 99, 3) := by decide +kernel
theorem dX5_uses_7 : decode cX5_uses 7 = .ok (.ifCond .ne 9, 3) := by decide +kernel
theorem dX5_uses_10 : decode cX5_uses 10 = .ok (.aload_n 0, 1) := by decide +kernel
theorem dX5_uses_11 : decode cX5_uses 11 = .ok (.iconst 0, 1) := by decide +kernel
theorem dX5_uses_12 : decode cX5_uses 12 = .ok (.invokevirtual 61, 3) := by decide +kernel
theorem dX5_uses_15 : decode cX5_uses 15 = .ok (.ireturn, 1) := by decide +kernel
theorem dX5_uses_16 : decode cX5_uses 16 = .ok (.aload_n 0, 1) := by decide +kernel
theorem dX5_uses_17 : decode cX5_uses 17 = .ok (.invokevirtual 154, 3) := by decide +kernel
theorem dX5_uses_20 : decode cX5_uses 20 = .ok (.iconst 0, 1) := by decide +kernel
theorem dX5_uses_21 : decode cX5_uses 21 = .ok (.istore_n 2, 1) := by decide +kernel
theorem dX5_uses_22 : decode cX5_uses 22 = .ok (.iconst 0, 1) := by decide +kernel
theorem dX5_uses_23 : decode cX5_uses 23 = .ok (.istore_n 3, 1) := by decide +kernel
theorem dX5_uses_24 : decode cX5_uses 24 = .ok (.iload_n 3, 1) := by decide +kernel
theorem dX5_uses_25 : decode cX5_uses 25 = .ok (.iload_n 1, 1) := by decide +kernel
theorem dX5_uses_26 : decode cX5_uses 26 = .ok (.if_icmp .ge 34, 3) := by decide +kernel
theorem dX5_uses_29 : decode cX5_uses 29 = .ok (.iload_n 2, 1) := by decide +kernel
theorem dX5_uses_30 : decode cX5_uses 30 = .ok (.aload_n 0, 1) := by decide +kernel
theorem dX5_uses_31 : decode cX5_uses 31 = .ok (.getfield 10, 3) := by decide +kernel
theorem dX5_uses_34 : decode cX5_uses 34 = .ok (.aload_n 0, 1) := by decide +kernel
theorem dX5_uses_35 : decode cX5_uses 35 = .ok (.getfield 49, 3) := by decide +kernel
theorem dX5_uses_38 : decode cX5_uses 38 = .ok (.invokevirtual 166, 3) := by decide +kernel
theorem dX5_uses_41 : decode cX5_uses 41 = .ok (.iadd, 1) := by decide +kernel
theorem dX5_uses_42 : decode cX5_uses 42 = .ok (.istore_n 2, 1) := by decide +kernel
theorem dX5_uses_43 : decode cX5_uses 43 = .ok (.aload_n 0, 1) := by decide +kernel
theorem dX5_uses_44 : decode cX5_uses 44 = .ok (.getfield 10, 3) := by decide +kernel
theorem dX5_uses_47 : decode cX5_uses 47 = .ok (.aload_n 0, 1) := by decide +kernel
theorem dX5_uses_48 : decode cX5_uses 48 = .ok (.getfield 49, 3) := by decide +kernel
theorem dX5_uses_51 : decode cX5_uses 51 = .ok (.invokevirtual 157, 3) := by decide +kernel
theorem dX5_uses_54 : decode cX5_uses 54 = .ok (.iinc 3 1, 3) := by decide +kernel
theorem dX5_uses_57 : decode cX5_uses 57 = .ok (.goto (-33), 3) := by decide +kernel
theorem dX5_uses_60 : decode cX5_uses 60 = .ok (.iload_n 2, 1) := by decide +kernel
theorem dX5_uses_61 : decode cX5_uses 61 = .ok (.ireturn, 1) := by decide +kernel
theorem dX5_round_0 : decode cX5_round 0 = .ok (.iload_n 1, 1) := by decide +kernel
theorem dX5_round_1 : decode cX5_round 1 = .ok (.iconst 4, 1) := by decide +kernel
theorem dX5_round_2 : decode cX5_round 2 = .ok (.invokestatic 57, 3) := by decide +kernel
theorem dX5_round_5 : decode cX5_round 5 = .ok (.ifCond .eq 11, 3) := by decide +kernel
theorem dX5_round_8 : decode cX5_round 8 = .ok (.aload_n 0, 1) := by decide +kernel
theorem dX5_round_9 : decode cX5_round 9 = .ok (.iload_n 2, 1) := by decide +kernel
theorem dX5_round_10 : decode cX5_round 10 = .ok (.invokevirtual 169, 3) := by decide +kernel
theorem dX5_round_13 : decode cX5_round 13 = .ok (.ifCond .ne 9, 3) := by decide +kernel
theorem dX5_round_16 : decode cX5_round 16 = .ok (.aload_n 0, 1) := by decide +kernel
theorem dX5_round_17 : decode cX5_round 17 = .ok (.iconst 0, 1) := by decide +kernel
theorem dX5_round_18 : decode cX5_round 18 = .ok (.invokevirtual 61, 3) := by decide +kernel
theorem dX5_round_21 : decode cX5_round 21 = .ok (.ireturn, 1) := by decide +kernel
theorem dX5_round_22 : decode cX5_round 22 = .ok (.aload_n 0, 1) := by decide +kernel
theorem dX5_round_23 : decode cX5_round 23 = .ok (.getfield 42, 3) := by decide +kernel
theorem dX5_round_26 : decode cX5_round 26 = .ok (.aload_n 0, 1) := by decide +kernel
theorem dX5_round_27 : decode cX5_round 27 = .ok (.getfield 10, 3) := by decide +kernel
theorem dX5_round_30 : decode cX5_round 30 = .ok (.aload_n 0, 1) := by decide +kernel
theorem dX5_round_31 : decode cX5_round 31 = .ok (.getfield 10, 3) := by decide +kernel
theorem dX5_round_34 : decode cX5_round 34 = .ok (.getfield 142, 3) := by decide +kernel
theorem dX5_round_37 : decode cX5_round 37 = .ok (.iload_n 1, 1) := by decide +kernel
theorem dX5_round_38 : decode cX5_round 38 = .ok (.iaload, 1) := by decide +kernel
theorem dX5_round_39 : decode cX5_round 39 = .ok (.invokevirtual 173, 3) := by decide +kernel
theorem dX5_round_42 : decode cX5_round 42 = .ok (.aload_n 0, 1) := by decide +kernel
theorem dX5_round_43 : decode cX5_round 43 = .ok (.getfield 42, 3) := by decide +kernel
theorem dX5_round_46 : decode cX5_round 46 = .ok (.iload_n 2, 1) := by decide +kernel
theorem dX5_round_47 : decode cX5_round 47 = .ok (.invokevirtual 177, 3) := by decide +kernel
theorem dX5_round_50 : decode cX5_round 50 = .ok (.ireturn, 1) := by decide +kernel
theorem dX5_best_0 : decode cX5_best 0 = .ok (.iload_n 1, 1) := by decide +kernel
theorem dX5_best_1 : decode cX5_best 1 = .ok (.iconst 4, 1) := by decide +kernel
theorem dX5_best_2 : decode cX5_best 2 = .ok (.invokestatic 57, 3) := by decide +kernel
theorem dX5_best_5 : decode cX5_best 5 = .ok (.ifCond .ne 9, 3) := by decide +kernel
theorem dX5_best_8 : decode cX5_best 8 = .ok (.aload_n 0, 1) := by decide +kernel
theorem dX5_best_9 : decode cX5_best 9 = .ok (.iconst 0, 1) := by decide +kernel
theorem dX5_best_10 : decode cX5_best 10 = .ok (.invokevirtual 61, 3) := by decide +kernel
theorem dX5_best_13 : decode cX5_best 13 = .ok (.ireturn, 1) := by decide +kernel
theorem dX5_best_14 : decode cX5_best 14 = .ok (.aload_n 0, 1) := by decide +kernel
theorem dX5_best_15 : decode cX5_best 15 = .ok (.iload_n 1, 1) := by decide +kernel
theorem dX5_best_16 : decode cX5_best 16 = .ok (.invokevirtual 180, 3) := by decide +kernel
theorem dX5_best_19 : decode cX5_best 19 = .ok (.ireturn, 1) := by decide +kernel
theorem dX5_bestWorth_0 : decode cX5_bestWorth 0 = .ok (.iload_n 1, 1) := by decide +kernel
theorem dX5_bestWorth_1 : decode cX5_bestWorth 1 = .ok (.iconst 4, 1) := by decide +kernel
theorem dX5_bestWorth_2 : decode cX5_bestWorth 2 = .ok (.invokestatic 57, 3) := by decide +kernel
theorem dX5_bestWorth_5 : decode cX5_bestWorth 5 = .ok (.ifCond .ne 9, 3) := by decide +kernel
theorem dX5_bestWorth_8 : decode cX5_bestWorth 8 = .ok (.aload_n 0, 1) := by decide +kernel
theorem dX5_bestWorth_9 : decode cX5_bestWorth 9 = .ok (.iconst 0, 1) := by decide +kernel
theorem dX5_bestWorth_10 : decode cX5_bestWorth 10 = .ok (.invokevirtual 61, 3) := by decide +kernel
theorem dX5_bestWorth_13 : decode cX5_bestWorth 13 = .ok (.ireturn, 1) := by decide +kernel
theorem dX5_bestWorth_14 : decode cX5_bestWorth 14 = .ok (.aload_n 0, 1) := by decide +kernel
theorem dX5_bestWorth_15 : decode cX5_bestWorth 15 = .ok (.getfield 10, 3) := by decide +kernel
theorem dX5_bestWorth_18 : decode cX5_bestWorth 18 = .ok (.aload_n 0, 1) := by decide +kernel
theorem dX5_bestWorth_19 : decode cX5_bestWorth 19 = .ok (.iload_n 1, 1) := by decide +kernel
theorem dX5_bestWorth_20 : decode cX5_bestWorth 20 = .ok (.invokevirtual 180, 3) := by decide +kernel
theorem dX5_bestWorth_23 : decode cX5_bestWorth 23 = .ok (.invokevirtual 139, 3) := by decide +kernel
theorem dX5_bestWorth_26 : decode cX5_bestWorth 26 = .ok (.ireturn, 1) := by decide +kernel
theorem dX5_from_0 : decode cX5_from 0 = .ok (.iload_n 1, 1) := by decide +kernel
theorem dX5_from_1 : decode cX5_from 1 = .ok (.iconst 4, 1) := by decide +kernel
theorem dX5_from_2 : decode cX5_from 2 = .ok (.invokestatic 57, 3) := by decide +kernel
theorem dX5_from_5 : decode cX5_from 5 = .ok (.ifCond .eq 11, 3) := by decide +kernel
theorem dX5_from_8 : decode cX5_from 8 = .ok (.aload_n 0, 1) := by decide +kernel
theorem dX5_from_9 : decode cX5_from 9 = .ok (.iload_n 2, 1) := by decide +kernel
theorem dX5_from_10 : decode cX5_from 10 = .ok (.invokevirtual 169, 3) := by decide +kernel
theorem dX5_from_13 : decode cX5_from 13 = .ok (.ifCond .ne 9, 3) := by decide +kernel
theorem dX5_from_16 : decode cX5_from 16 = .ok (.aload_n 0, 1) := by decide +kernel
theorem dX5_from_17 : decode cX5_from 17 = .ok (.iconst 0, 1) := by decide +kernel
theorem dX5_from_18 : decode cX5_from 18 = .ok (.invokevirtual 61, 3) := by decide +kernel
theorem dX5_from_21 : decode cX5_from 21 = .ok (.ireturn, 1) := by decide +kernel
theorem dX5_from_22 : decode cX5_from 22 = .ok (.ldc 183, 2) := by decide +kernel
theorem dX5_from_24 : decode cX5_from 24 = .ok (.istore_n 3, 1) := by decide +kernel
theorem dX5_from_25 : decode cX5_from 25 = .ok (.iconst 0, 1) := by decide +kernel
theorem dX5_from_26 : decode cX5_from 26 = .ok (.istore 4, 2) := by decide +kernel
end
section
theorem dX5_from_28 : decode cX5_from 28 = .ok (.iconst 0, 1) := by decide +kernel
theorem dX5_from_29 : decode cX5_from 29 = .ok (.istore 5, 2) := by decide +kernel
theorem dX5_from_31 : decode cX5_from 31 = .ok (.iload 5, 2) := by decide +kernel
theorem dX5_from_33 : decode cX5_from 33 = .ok (.bipush 100, 2) := by decide +kernel
theorem dX5_from_35 : decode cX5_from 35 = .ok (.if_icmp .ge 45, 3) := by decide +kernel
theorem dX5_from_38 : decode cX5_from 38 = .ok (.aload_n 0, 1) := by decide +kernel
theorem dX5_from_39 : decode cX5_from 39 = .ok (.getfield 42, 3) := by decide +kernel
theorem dX5_from_42 : decode cX5_from 42 = .ok (.aload_n 0, 1) := by decide +kernel
theorem dX5_from_43 : decode cX5_from 43 = .ok (.getfield 10, 3) := by decide +kernel
theorem dX5_from_46 : decode cX5_from 46 = .ok (.iload 5, 2) := by decide +kernel
theorem dX5_from_48 : decode cX5_from 48 = .ok (.invokevirtual 173, 3) := by decide +kernel
theorem dX5_from_51 : decode cX5_from 51 = .ok (.aload_n 0, 1) := by decide +kernel
theorem dX5_from_52 : decode cX5_from 52 = .ok (.getfield 42, 3) := by decide +kernel
theorem dX5_from_55 : decode cX5_from 55 = .ok (.iload_n 2, 1) := by decide +kernel
theorem dX5_from_56 : decode cX5_from 56 = .ok (.invokevirtual 177, 3) := by decide +kernel
theorem dX5_from_59 : decode cX5_from 59 = .ok (.istore 6, 2) := by decide +kernel
theorem dX5_from_61 : decode cX5_from 61 = .ok (.iload 6, 2) := by decide +kernel
theorem dX5_from_63 : decode cX5_from 63 = .ok (.iload_n 3, 1) := by decide +kernel
theorem dX5_from_64 : decode cX5_from 64 = .ok (.if_icmp .ge 10, 3) := by decide +kernel
theorem dX5_from_67 : decode cX5_from 67 = .ok (.iload 6, 2) := by decide +kernel
theorem dX5_from_69 : decode cX5_from 69 = .ok (.istore_n 3, 1) := by decide +kernel
theorem dX5_from_70 : decode cX5_from 70 = .ok (.iload 5, 2) := by decide +kernel
theorem dX5_from_72 : decode cX5_from 72 = .ok (.istore 4, 2) := by decide +kernel
theorem dX5_from_74 : decode cX5_from 74 = .ok (.iinc 5 1, 3) := by decide +kernel
theorem dX5_from_77 : decode cX5_from 77 = .ok (.goto (-46), 3) := by decide +kernel
theorem dX5_from_80 : decode cX5_from 80 = .ok (.iload 4, 2) := by decide +kernel
theorem dX5_from_82 : decode cX5_from 82 = .ok (.ireturn, 1) := by decide +kernel
theorem dX5_share_0 : decode cX5_share 0 = .ok (.aload_n 0, 1) := by decide +kernel
theorem dX5_share_1 : decode cX5_share 1 = .ok (.iload_n 1, 1) := by decide +kernel
theorem dX5_share_2 : decode cX5_share 2 = .ok (.iload_n 2, 1) := by decide +kernel
theorem dX5_share_3 : decode cX5_share 3 = .ok (.iload_n 3, 1) := by decide +kernel
theorem dX5_share_4 : decode cX5_share 4 = .ok (.invokevirtual 184, 3) := by decide +kernel
theorem dX5_share_7 : decode cX5_share 7 = .ok (.ifCond .ne 9, 3) := by decide +kernel
theorem dX5_share_10 : decode cX5_share 10 = .ok (.aload_n 0, 1) := by decide +kernel
theorem dX5_share_11 : decode cX5_share 11 = .ok (.iconst 0, 1) := by decide +kernel
theorem dX5_share_12 : decode cX5_share 12 = .ok (.invokevirtual 61, 3) := by decide +kernel
theorem dX5_share_15 : decode cX5_share 15 = .ok (.ireturn, 1) := by decide +kernel
theorem dX5_share_16 : decode cX5_share 16 = .ok (.aload_n 0, 1) := by decide +kernel
theorem dX5_share_17 : decode cX5_share 17 = .ok (.iload_n 1, 1) := by decide +kernel
theorem dX5_share_18 : decode cX5_share 18 = .ok (.iload_n 2, 1) := by decide +kernel
theorem dX5_share_19 : decode cX5_share 19 = .ok (.iload_n 3, 1) := by decide +kernel
theorem dX5_share_20 : decode cX5_share 20 = .ok (.invokevirtual 188, 3) := by decide +kernel
theorem dX5_share_23 : decode cX5_share 23 = .ok (.ireturn, 1) := by decide +kernel
theorem dX5_longer_0 : decode cX5_longer 0 = .ok (.aload_n 0, 1) := by decide +kernel
theorem dX5_longer_1 : decode cX5_longer 1 = .ok (.iload_n 1, 1) := by decide +kernel
theorem dX5_longer_2 : decode cX5_longer 2 = .ok (.iload_n 2, 1) := by decide +kernel
theorem dX5_longer_3 : decode cX5_longer 3 = .ok (.iload_n 3, 1) := by decide +kernel
theorem dX5_longer_4 : decode cX5_longer 4 = .ok (.invokevirtual 184, 3) := by decide +kernel
theorem dX5_longer_7 : decode cX5_longer 7 = .ok (.ifCond .ne 9, 3) := by decide +kernel
theorem dX5_longer_10 : decode cX5_longer 10 = .ok (.aload_n 0, 1) := by decide +kernel
theorem dX5_longer_11 : decode cX5_longer 11 = .ok (.iconst 0, 1) := by decide +kernel
theorem dX5_longer_12 : decode cX5_longer 12 = .ok (.invokevirtual 61, 3) := by decide +kernel
theorem dX5_longer_15 : decode cX5_longer 15 = .ok (.ireturn, 1) := by decide +kernel
theorem dX5_longer_16 : decode cX5_longer 16 = .ok (.aload_n 0, 1) := by decide +kernel
theorem dX5_longer_17 : decode cX5_longer 17 = .ok (.aload_n 0, 1) := by decide +kernel
theorem dX5_longer_18 : decode cX5_longer 18 = .ok (.iload_n 1, 1) := by decide +kernel
theorem dX5_longer_19 : decode cX5_longer 19 = .ok (.iload_n 2, 1) := by decide +kernel
theorem dX5_longer_20 : decode cX5_longer 20 = .ok (.iload_n 3, 1) := by decide +kernel
theorem dX5_longer_21 : decode cX5_longer 21 = .ok (.invokevirtual 188, 3) := by decide +kernel
theorem dX5_longer_24 : decode cX5_longer 24 = .ok (.iload_n 3, 1) := by decide +kernel
theorem dX5_longer_25 : decode cX5_longer 25 = .ok (.invokevirtual 191, 3) := by decide +kernel
theorem dX5_longer_28 : decode cX5_longer 28 = .ok (.ireturn, 1) := by decide +kernel
theorem dX5_sign_0 : decode cX5_sign 0 = .ok (.iload_n 1, 1) := by decide +kernel
theorem dX5_sign_1 : decode cX5_sign 1 = .ok (.ifCond .eq 11, 3) := by decide +kernel
theorem dX5_sign_4 : decode cX5_sign 4 = .ok (.aload_n 0, 1) := by decide +kernel
theorem dX5_sign_5 : decode cX5_sign 5 = .ok (.iload_n 1, 1) := by decide +kernel
theorem dX5_sign_6 : decode cX5_sign 6 = .ok (.invokevirtual 169, 3) := by decide +kernel
theorem dX5_sign_9 : decode cX5_sign 9 = .ok (.ifCond .ne 9, 3) := by decide +kernel
theorem dX5_sign_12 : decode cX5_sign 12 = .ok (.aload_n 0, 1) := by decide +kernel
theorem dX5_sign_13 : decode cX5_sign 13 = .ok (.iconst 0, 1) := by decide +kernel
theorem dX5_sign_14 : decode cX5_sign 14 = .ok (.invokevirtual 61, 3) := by decide +kernel
theorem dX5_sign_17 : decode cX5_sign 17 = .ok (.ireturn, 1) := by decide +kernel
theorem dX5_sign_18 : decode cX5_sign 18 = .ok (.aload_n 0, 1) := by decide +kernel
theorem dX5_sign_19 : decode cX5_sign 19 = .ok (.getfield 10, 3) := by decide +kernel
theorem dX5_sign_22 : decode cX5_sign 22 = .ok (.getfield 194, 3) := by decide +kernel
theorem dX5_sign_25 : decode cX5_sign 25 = .ok (.bipush 6, 2) := by decide +kernel
theorem dX5_sign_27 : decode cX5_sign 27 = .ok (.if_icmp .lt 9, 3) := by decide +kernel
theorem dX5_sign_30 : decode cX5_sign 30 = .ok (.aload_n 0, 1) := by decide +kernel
theorem dX5_sign_31 : decode cX5_sign 31 = .ok (.iconst 1, 1) := by decide +kernel
theorem dX5_sign_32 : decode cX5_sign 32 = .ok (.invokevirtual 61, 3) := by decide +kernel
theorem dX5_sign_35 : decode cX5_sign 35 = .ok (.ireturn, 1) := by decide +kernel
theorem dX5_sign_36 : decode cX5_sign 36 = .ok (.aload_n 0, 1) := by decide +kernel
theorem dX5_sign_37 : decode cX5_sign 37 = .ok (.getfield 10, 3) := by decide +kernel
theorem dX5_sign_40 : decode cX5_sign 40 = .ok (.iload_n 1, 1) := by decide +kernel
theorem dX5_sign_41 : decode cX5_sign 41 = .ok (.invokevirtual 197, 3) := by decide +kernel
theorem dX5_sign_44 : decode cX5_sign 44 = .ok (.ireturn, 1) := by decide +kernel
theorem dX5_signOf_0 : decode cX5_signOf 0 = .ok (.iload_n 1, 1) := by decide +kernel
theorem dX5_signOf_1 : decode cX5_signOf 1 = .ok (.aload_n 0, 1) := by decide +kernel
theorem dX5_signOf_2 : decode cX5_signOf 2 = .ok (.getfield 10, 3) := by decide +kernel
theorem dX5_signOf_5 : decode cX5_signOf 5 = .ok (.getfield 194, 3) := by decide +kernel
theorem dX5_signOf_8 : decode cX5_signOf 8 = .ok (.invokestatic 57, 3) := by decide +kernel
theorem dX5_signOf_11 : decode cX5_signOf 11 = .ok (.ifCond .ne 9, 3) := by decide +kernel
theorem dX5_signOf_14 : decode cX5_signOf 14 = .ok (.aload_n 0, 1) := by decide +kernel
theorem dX5_signOf_15 : decode cX5_signOf 15 = .ok (.iconst 0, 1) := by decide +kernel
theorem dX5_signOf_16 : decode cX5_signOf 16 = .ok (.invokevirtual 61, 3) := by decide +kernel
theorem dX5_signOf_19 : decode cX5_signOf 19 = .ok (.ireturn, 1) := by decide +kernel
theorem dX5_signOf_20 : decode cX5_signOf 20 = .ok (.aload_n 0, 1) := by decide +kernel
theorem dX5_signOf_21 : decode cX5_signOf 21 = .ok (.getfield 10, 3) := by decide +kernel
theorem dX5_signOf_24 : decode cX5_signOf 24 = .ok (.getfield 200, 3) := by decide +kernel
theorem dX5_signOf_27 : decode cX5_signOf 27 = .ok (.iload_n 1, 1) := by decide +kernel
theorem dX5_signOf_28 : decode cX5_signOf 28 = .ok (.iaload, 1) := by decide +kernel
theorem dX5_signOf_29 : decode cX5_signOf 29 = .ok (.ireturn, 1) := by decide +kernel
theorem dX5_may_0 : decode cX5_may 0 = .ok (.aload_n 0, 1) := by decide +kernel
theorem dX5_may_1 : decode cX5_may 1 = .ok (.iload_n 1, 1) := by decide +kernel
theorem dX5_may_2 : decode cX5_may 2 = .ok (.invokevirtual 169, 3) := by decide +kernel
theorem dX5_may_5 : decode cX5_may 5 = .ok (.ifCond .ne 9, 3) := by decide +kernel
theorem dX5_may_8 : decode cX5_may 8 = .ok (.aload_n 0, 1) := by decide +kernel
theorem dX5_may_9 : decode cX5_may 9 = .ok (.iconst 0, 1) := by decide +kernel
theorem dX5_may_10 : decode cX5_may 10 = .ok (.invokevirtual 61, 3) := by decide +kernel
theorem dX5_may_13 : decode cX5_may 13 = .ok (.ireturn, 1) := by decide +kernel
theorem dX5_may_14 : decode cX5_may 14 = .ok (.aload_n 0, 1) := by decide +kernel
theorem dX5_may_15 : decode cX5_may 15 = .ok (.getfield 10, 3) := by decide +kernel
theorem dX5_may_18 : decode cX5_may 18 = .ok (.iload_n 1, 1) := by decide +kernel
theorem dX5_may_19 : decode cX5_may 19 = .ok (.invokevirtual 203, 3) := by decide +kernel
theorem dX5_may_22 : decode cX5_may 22 = .ok (.ireturn, 1) := by decide +kernel
theorem dX5_tells_0 : decode cX5_tells 0 = .ok (.iload_n 1, 1) := by decide +kernel
theorem dX5_tells_1 : decode cX5_tells 1 = .ok (.aload_n 0, 1) := by decide +kernel
theorem dX5_tells_2 : decode cX5_tells 2 = .ok (.getfield 10, 3) := by decide +kernel
theorem dX5_tells_5 : decode cX5_tells 5 = .ok (.getfield 194, 3) := by decide +kernel
theorem dX5_tells_8 : decode cX5_tells 8 = .ok (.invokestatic 57, 3) := by decide +kernel
theorem dX5_tells_11 : decode cX5_tells 11 = .ok (.ifCond .ne 9, 3) := by decide +kernel
theorem dX5_tells_14 : decode cX5_tells 14 = .ok (.aload_n 0, 1) := by decide +kernel
theorem dX5_tells_15 : decode cX5_tells 15 = .ok (.iconst 0, 1) := by decide +kernel
theorem dX5_tells_16 : decode cX5_tells 16 = .ok (.invokevirtual 61, 3) := by decide +kernel
theorem dX5_tells_19 : decode cX5_tells 19 = .ok (.ireturn, 1) := by decide +kernel
theorem dX5_tells_20 : decode cX5_tells 20 = .ok (.aload_n 0, 1) := by decide +kernel
theorem dX5_tells_21 : decode cX5_tells 21 = .ok (.getfield 10, 3) := by decide +kernel
theorem dX5_tells_24 : decode cX5_tells 24 = .ok (.getfield 200, 3) := by decide +kernel
theorem dX5_tells_27 : decode cX5_tells 27 = .ok (.iload_n 1, 1) := by decide +kernel
theorem dX5_tells_28 : decode cX5_tells 28 = .ok (.iaload, 1) := by decide +kernel
theorem dX5_tells_29 : decode cX5_tells 29 = .ok (.istore_n 2, 1) := by decide +kernel
theorem dX5_tells_30 : decode cX5_tells 30 = .ok (.bipush 11, 2) := by decide +kernel
theorem dX5_tells_32 : decode cX5_tells 32 = .ok (.istore_n 3, 1) := by decide +kernel
theorem dX5_tells_33 : decode cX5_tells 33 = .ok (.iconst 0, 1) := by decide +kernel
theorem dX5_tells_34 : decode cX5_tells 34 = .ok (.istore 4, 2) := by decide +kernel
theorem dX5_tells_36 : decode cX5_tells 36 = .ok (.iconst 0, 1) := by decide +kernel
theorem dX5_tells_37 : decode cX5_tells 37 = .ok (.istore 5, 2) := by decide +kernel
theorem dX5_tells_39 : decode cX5_tells 39 = .ok (.iload 5, 2) := by decide +kernel
theorem dX5_tells_41 : decode cX5_tells 41 = .ok (.iload_n 2, 1) := by decide +kernel
theorem dX5_tells_42 : decode cX5_tells 42 = .ok (.if_icmp .gt 64, 3) := by decide +kernel
theorem dX5_tells_45 : decode cX5_tells 45 = .ok (.iload 5, 2) := by decide +kernel
theorem dX5_tells_47 : decode cX5_tells 47 = .ok (.iload_n 2, 1) := by decide +kernel
theorem dX5_tells_48 : decode cX5_tells 48 = .ok (.iconst (-1), 1) := by decide +kernel
theorem dX5_tells_49 : decode cX5_tells 49 = .ok (.ixor, 1) := by decide +kernel
theorem dX5_tells_50 : decode cX5_tells 50 = .ok (.iand, 1) := by decide +kernel
theorem dX5_tells_51 : decode cX5_tells 51 = .ok (.ifCond .ne 7, 3) := by decide +kernel
theorem dX5_tells_54 : decode cX5_tells 54 = .ok (.iconst 1, 1) := by decide +kernel
theorem dX5_tells_55 : decode cX5_tells 55 = .ok (.goto 4, 3) := by decide +kernel
theorem dX5_tells_58 : decode cX5_tells 58 = .ok (.iconst 0, 1) := by decide +kernel
theorem dX5_tells_59 : decode cX5_tells 59 = .ok (.istore 6, 2) := by decide +kernel
theorem dX5_tells_61 : decode cX5_tells 61 = .ok (.iload 6, 2) := by decide +kernel
theorem dX5_tells_63 : decode cX5_tells 63 = .ok (.ifCond .eq 37, 3) := by decide +kernel
theorem dX5_tells_66 : decode cX5_tells 66 = .ok (.iload 5, 2) := by decide +kernel
theorem dX5_tells_68 : decode cX5_tells 68 = .ok (.invokestatic 130, 3) := by decide +kernel
theorem dX5_tells_71 : decode cX5_tells 71 = .ok (.iload_n 3, 1) := by decide +kernel
theorem dX5_tells_72 : decode cX5_tells 72 = .ok (.if_icmp .ge 28, 3) := by decide +kernel
theorem dX5_tells_75 : decode cX5_tells 75 = .ok (.aload_n 0, 1) := by decide +kernel
theorem dX5_tells_76 : decode cX5_tells 76 = .ok (.getfield 10, 3) := by decide +kernel
theorem dX5_tells_79 : decode cX5_tells 79 = .ok (.iload 5, 2) := by decide +kernel
theorem dX5_tells_81 : decode cX5_tells 81 = .ok (.invokevirtual 203, 3) := by decide +kernel
theorem dX5_tells_84 : decode cX5_tells 84 = .ok (.iconst 1, 1) := by decide +kernel
theorem dX5_tells_85 : decode cX5_tells 85 = .ok (.iload_n 1, 1) := by decide +kernel
theorem dX5_tells_86 : decode cX5_tells 86 = .ok (.ishl, 1) := by decide +kernel
theorem dX5_tells_87 : decode cX5_tells 87 = .ok (.if_icmp .ne 13, 3) := by decide +kernel
theorem dX5_tells_90 : decode cX5_tells 90 = .ok (.iload 5, 2) := by decide +kernel
theorem dX5_tells_92 : decode cX5_tells 92 = .ok (.invokestatic 130, 3) := by decide +kernel
theorem dX5_tells_95 : decode cX5_tells 95 = .ok (.istore_n 3, 1) := by decide +kernel
theorem dX5_tells_96 : decode cX5_tells 96 = .ok (.iload 5, 2) := by decide +kernel
theorem dX5_tells_98 : decode cX5_tells 98 = .ok (.istore 4, 2) := by decide +kernel
theorem dX5_tells_100 : decode cX5_tells 100 = .ok (.iinc 5 1, 3) := by decide +kernel
theorem dX5_tells_103 : decode cX5_tells 103 = .ok (.goto (-64), 3) := by decide +kernel
theorem dX5_tells_106 : decode cX5_tells 106 = .ok (.iload_n 3, 1) := by decide +kernel
theorem dX5_tells_107 : decode cX5_tells 107 = .ok (.bipush 10, 2) := by decide +kernel
theorem dX5_tells_109 : decode cX5_tells 109 = .ok (.if_icmp .le 11, 3) := by decide +kernel
theorem dX5_tells_112 : decode cX5_tells 112 = .ok (.aload_n 0, 1) := by decide +kernel
theorem dX5_tells_113 : decode cX5_tells 113 = .ok (.iconst 3, 1) := by decide +kernel
theorem dX5_tells_114 : decode cX5_tells 114 = .ok (.invokevirtual 61, 3) := by decide +kernel
theorem dX5_tells_117 : decode cX5_tells 117 = .ok (.goto 5, 3) := by decide +kernel
theorem dX5_tells_120 : decode cX5_tells 120 = .ok (.iload 4, 2) := by decide +kernel
theorem dX5_tells_122 : decode cX5_tells 122 = .ok (.ireturn, 1) := by decide +kernel
theorem dX5_told_0 : decode cX5_told 0 = .ok (.aload_n 0, 1) := by decide +kernel
theorem dX5_told_1 : decode cX5_told 1 = .ok (.getfield 10, 3) := by decide +kernel
theorem dX5_told_4 : decode cX5_told 4 = .ok (.aload_n 0, 1) := by decide +kernel
theorem dX5_told_5 : decode cX5_told 5 = .ok (.getfield 10, 3) := by decide +kernel
theorem dX5_told_8 : decode cX5_told 8 = .ok (.getfield 80, 3) := by decide +kernel
theorem dX5_told_11 : decode cX5_told 11 = .ok (.invokevirtual 126, 3) := by decide +kernel
theorem dX5_told_14 : decode cX5_told 14 = .ok (.istore_n 1, 1) := by decide +kernel
theorem dX5_told_15 : decode cX5_told 15 = .ok (.iconst 0, 1) := by decide +kernel
theorem dX5_told_16 : decode cX5_told 16 = .ok (.istore_n 2, 1) := by decide +kernel
theorem dX5_told_17 : decode cX5_told 17 = .ok (.iconst 0, 1) := by decide +kernel
theorem dX5_told_18 : decode cX5_told 18 = .ok (.istore_n 3, 1) := by decide +kernel
theorem dX5_told_19 : decode cX5_told 19 = .ok (.iload_n 3, 1) := by decide +kernel
theorem dX5_told_20 : decode cX5_told 20 = .ok (.aload_n 0, 1) := by decide +kernel
theorem dX5_told_21 : decode cX5_told 21 = .ok (.getfield 10, 3) := by decide +kernel
theorem dX5_told_24 : decode cX5_told 24 = .ok (.getfield 194, 3) := by decide +kernel
theorem dX5_told_27 : decode cX5_told 27 = .ok (.if_icmp .ge 39, 3) := by decide +kernel
theorem dX5_told_30 : decode cX5_told 30 = .ok (.aload_n 0, 1) := by decide +kernel
theorem dX5_told_31 : decode cX5_told 31 = .ok (.getfield 10, 3) := by decide +kernel
theorem dX5_told_34 : decode cX5_told 34 = .ok (.aload_n 0, 1) := by decide +kernel
theorem dX5_told_35 : decode cX5_told 35 = .ok (.getfield 10, 3) := by decide +kernel
theorem dX5_told_38 : decode cX5_told 38 = .ok (.getfield 200, 3) := by decide +kernel
theorem dX5_told_41 : decode cX5_told 41 = .ok (.iload_n 3, 1) := by decide +kernel
theorem dX5_told_42 : decode cX5_told 42 = .ok (.iaload, 1) := by decide +kernel
theorem dX5_told_43 : decode cX5_told 43 = .ok (.iload_n 1, 1) := by decide +kernel
theorem dX5_told_44 : decode cX5_told 44 = .ok (.iand, 1) := by decide +kernel
theorem dX5_told_45 : decode cX5_told 45 = .ok (.invokevirtual 203, 3) := by decide +kernel
theorem dX5_told_48 : decode cX5_told 48 = .ok (.iconst 1, 1) := by decide +kernel
theorem dX5_told_49 : decode cX5_told 49 = .ok (.iload_n 3, 1) := by decide +kernel
theorem dX5_told_50 : decode cX5_told 50 = .ok (.ishl, 1) := by decide +kernel
theorem dX5_told_51 : decode cX5_told 51 = .ok (.if_icmp .ne 9, 3) := by decide +kernel
theorem dX5_told_54 : decode cX5_told 54 = .ok (.iload_n 2, 1) := by decide +kernel
theorem dX5_told_55 : decode cX5_told 55 = .ok (.iconst 1, 1) := by decide +kernel
theorem dX5_told_56 : decode cX5_told 56 = .ok (.iload_n 3, 1) := by decide +kernel
theorem dX5_told_57 : decode cX5_told 57 = .ok (.ishl, 1) := by decide +kernel
theorem dX5_told_58 : decode cX5_told 58 = .ok (.ior, 1) := by decide +kernel
theorem dX5_told_59 : decode cX5_told 59 = .ok (.istore_n 2, 1) := by decide +kernel
theorem dX5_told_60 : decode cX5_told 60 = .ok (.iinc 3 1, 3) := by decide +kernel
theorem dX5_told_63 : decode cX5_told 63 = .ok (.goto (-44), 3) := by decide +kernel
theorem dX5_told_66 : decode cX5_told 66 = .ok (.iload_n 2, 1) := by decide +kernel
theorem dX5_told_67 : decode cX5_told 67 = .ok (.ireturn, 1) := by decide +kernel
theorem dX5_steers_0 : decode cX5_steers 0 = .ok (.iload_n 1, 1) := by decide +kernel
theorem dX5_steers_1 : decode cX5_steers 1 = .ok (.bipush 100, 2) := by decide +kernel
theorem dX5_steers_3 : decode cX5_steers 3 = .ok (.invokestatic 57, 3) := by decide +kernel
theorem dX5_steers_6 : decode cX5_steers 6 = .ok (.ifCond .ne 9, 3) := by decide +kernel
theorem dX5_steers_9 : decode cX5_steers 9 = .ok (.aload_n 0, 1) := by decide +kernel
theorem dX5_steers_10 : decode cX5_steers 10 = .ok (.iconst 0, 1) := by decide +kernel
theorem dX5_steers_11 : decode cX5_steers 11 = .ok (.invokevirtual 61, 3) := by decide +kernel
theorem dX5_steers_14 : decode cX5_steers 14 = .ok (.ireturn, 1) := by decide +kernel
theorem dX5_steers_15 : decode cX5_steers 15 = .ok (.aload_n 0, 1) := by decide +kernel
theorem dX5_steers_16 : decode cX5_steers 16 = .ok (.getfield 10, 3) := by decide +kernel
theorem dX5_steers_19 : decode cX5_steers 19 = .ok (.aload_n 0, 1) := by decide +kernel
theorem dX5_steers_20 : decode cX5_steers 20 = .ok (.getfield 10, 3) := by decide +kernel
theorem dX5_steers_23 : decode cX5_steers 23 = .ok (.aload_n 0, 1) := by decide +kernel
theorem dX5_steers_24 : decode cX5_steers 24 = .ok (.getfield 10, 3) := by decide +kernel
theorem dX5_steers_27 : decode cX5_steers 27 = .ok (.getfield 80, 3) := by decide +kernel
theorem dX5_steers_30 : decode cX5_steers 30 = .ok (.invokevirtual 126, 3) := by decide +kernel
theorem dX5_steers_33 : decode cX5_steers 33 = .ok (.iload_n 1, 1) := by decide +kernel
theorem dX5_steers_34 : decode cX5_steers 34 = .ok (.invokevirtual 206, 3) := by decide +kernel
theorem dX5_steers_37 : decode cX5_steers 37 = .ok (.istore_n 2, 1) := by decide +kernel
theorem dX5_steers_38 : decode cX5_steers 38 = .ok (.iload_n 2, 1) := by decide +kernel
theorem dX5_steers_39 : decode cX5_steers 39 = .ok (.ifCond .ge 11, 3) := by decide +kernel
theorem dX5_steers_42 : decode cX5_steers 42 = .ok (.aload_n 0, 1) := by decide +kernel
theorem dX5_steers_43 : decode cX5_steers 43 = .ok (.iconst 3, 1) := by decide +kernel
theorem dX5_steers_44 : decode cX5_steers 44 = .ok (.invokevirtual 61, 3) := by decide +kernel
theorem dX5_steers_47 : decode cX5_steers 47 = .ok (.goto 4, 3) := by decide +kernel
theorem dX5_steers_50 : decode cX5_steers 50 = .ok (.iload_n 2, 1) := by decide +kernel
theorem dX5_steers_51 : decode cX5_steers 51 = .ok (.ireturn, 1) := by decide +kernel
theorem dX5_sees_0 : decode cX5_sees 0 = .ok (.iload_n 1, 1) := by decide +kernel
theorem dX5_sees_1 : decode cX5_sees 1 = .ok (.aload_n 0, 1) := by decide +kernel
theorem dX5_sees_2 : decode cX5_sees 2 = .ok (.getfield 10, 3) := by decide +kernel
theorem dX5_sees_5 : decode cX5_sees 5 = .ok (.getfield 65, 3) := by decide +kernel
theorem dX5_sees_8 : decode cX5_sees 8 = .ok (.invokestatic 57, 3) := by decide +kernel
theorem dX5_sees_11 : decode cX5_sees 11 = .ok (.ifCond .ne 9, 3) := by decide +kernel
theorem dX5_sees_14 : decode cX5_sees 14 = .ok (.aload_n 0, 1) := by decide +kernel
theorem dX5_sees_15 : decode cX5_sees 15 = .ok (.iconst 0, 1) := by decide +kernel
theorem dX5_sees_16 : decode cX5_sees 16 = .ok (.invokevirtual 61, 3) := by decide +kernel
theorem dX5_sees_19 : decode cX5_sees 19 = .ok (.ireturn, 1) := by decide +kernel
theorem dX5_sees_20 : decode cX5_sees 20 = .ok (.aload_n 0, 1) := by decide +kernel
theorem dX5_sees_21 : decode cX5_sees 21 = .ok (.getfield 10, 3) := by decide +kernel
theorem dX5_sees_24 : decode cX5_sees 24 = .ok (.aload_n 0, 1) := by decide +kernel
theorem dX5_sees_25 : decode cX5_sees 25 = .ok (.getfield 10, 3) := by decide +kernel
theorem dX5_sees_28 : decode cX5_sees 28 = .ok (.getfield 80, 3) := by decide +kernel
theorem dX5_sees_31 : decode cX5_sees 31 = .ok (.invokevirtual 126, 3) := by decide +kernel
theorem dX5_sees_34 : decode cX5_sees 34 = .ok (.istore_n 2, 1) := by decide +kernel
theorem dX5_sees_35 : decode cX5_sees 35 = .ok (.iconst 0, 1) := by decide +kernel
theorem dX5_sees_36 : decode cX5_sees 36 = .ok (.istore_n 3, 1) := by decide +kernel
theorem dX5_sees_37 : decode cX5_sees 37 = .ok (.iconst 0, 1) := by decide +kernel
theorem dX5_sees_38 : decode cX5_sees 38 = .ok (.istore 4, 2) := by decide +kernel
theorem dX5_sees_40 : decode cX5_sees 40 = .ok (.iload 4, 2) := by decide +kernel
theorem dX5_sees_42 : decode cX5_sees 42 = .ok (.bipush 100, 2) := by decide +kernel
theorem dX5_sees_44 : decode cX5_sees 44 = .ok (.if_icmp .ge 26, 3) := by decide +kernel
theorem dX5_sees_47 : decode cX5_sees 47 = .ok (.aload_n 0, 1) := by decide +kernel
theorem dX5_sees_48 : decode cX5_sees 48 = .ok (.getfield 10, 3) := by decide +kernel
theorem dX5_sees_51 : decode cX5_sees 51 = .ok (.iload_n 2, 1) := by decide +kernel
theorem dX5_sees_52 : decode cX5_sees 52 = .ok (.iload 4, 2) := by decide +kernel
theorem dX5_sees_54 : decode cX5_sees 54 = .ok (.invokevirtual 206, 3) := by decide +kernel
theorem dX5_sees_57 : decode cX5_sees 57 = .ok (.iload_n 1, 1) := by decide +kernel
theorem dX5_sees_58 : decode cX5_sees 58 = .ok (.if_icmp .ne 6, 3) := by decide +kernel
theorem dX5_sees_61 : decode cX5_sees 61 = .ok (.iinc 3 1, 3) := by decide +kernel
theorem dX5_sees_64 : decode cX5_sees 64 = .ok (.iinc 4 1, 3) := by decide +kernel
theorem dX5_sees_67 : decode cX5_sees 67 = .ok (.goto (-27), 3) := by decide +kernel
theorem dX5_sees_70 : decode cX5_sees 70 = .ok (.iload_n 3, 1) := by decide +kernel
theorem dX5_sees_71 : decode cX5_sees 71 = .ok (.ireturn, 1) := by decide +kernel
theorem dX5_which_0 : decode cX5_which 0 = .ok (.aload_n 0, 1) := by decide +kernel
theorem dX5_which_1 : decode cX5_which 1 = .ok (.iload_n 1, 1) := by decide +kernel
theorem dX5_which_2 : decode cX5_which 2 = .ok (.invokevirtual 209, 3) := by decide +kernel
theorem dX5_which_5 : decode cX5_which 5 = .ok (.istore_n 2, 1) := by decide +kernel
theorem dX5_which_6 : decode cX5_which 6 = .ok (.iload_n 2, 1) := by decide +kernel
theorem dX5_which_7 : decode cX5_which 7 = .ok (.ifCond .eq 5, 3) := by decide +kernel
theorem dX5_which_10 : decode cX5_which 10 = .ok (.iload_n 2, 1) := by decide +kernel
theorem dX5_which_11 : decode cX5_which 11 = .ok (.ireturn, 1) := by decide +kernel
theorem dX5_which_12 : decode cX5_which 12 = .ok (.iconst 0, 1) := by decide +kernel
theorem dX5_which_13 : decode cX5_which 13 = .ok (.istore_n 3, 1) := by decide +kernel
theorem dX5_which_14 : decode cX5_which 14 = .ok (.iconst 0, 1) := by decide +kernel
theorem dX5_which_15 : decode cX5_which 15 = .ok (.istore 4, 2) := by decide +kernel
theorem dX5_which_17 : decode cX5_which 17 = .ok (.iload 4, 2) := by decide +kernel
theorem dX5_which_19 : decode cX5_which 19 = .ok (.aload_n 0, 1) := by decide +kernel
theorem dX5_which_20 : decode cX5_which 20 = .ok (.getfield 10, 3) := by decide +kernel
theorem dX5_which_23 : decode cX5_which 23 = .ok (.getfield 65, 3) := by decide +kernel
theorem dX5_which_26 : decode cX5_which 26 = .ok (.if_icmp .ge 41, 3) := by decide +kernel
theorem dX5_which_29 : decode cX5_which 29 = .ok (.aload_n 0, 1) := by decide +kernel
theorem dX5_which_30 : decode cX5_which 30 = .ok (.aload_n 0, 1) := by decide +kernel
theorem dX5_which_31 : decode cX5_which 31 = .ok (.getfield 35, 3) := by decide +kernel
theorem dX5_which_34 : decode cX5_which 34 = .ok (.iload_n 1, 1) := by decide +kernel
theorem dX5_which_35 : decode cX5_which 35 = .ok (.aaload, 1) := by decide +kernel
theorem dX5_which_36 : decode cX5_which 36 = .ok (.iload 4, 2) := by decide +kernel
theorem dX5_which_38 : decode cX5_which 38 = .ok (.aload_n 0, 1) := by decide +kernel
theorem dX5_which_39 : decode cX5_which 39 = .ok (.getfield 10, 3) := by decide +kernel
theorem dX5_which_42 : decode cX5_which 42 = .ok (.getfield 77, 3) := by decide +kernel
theorem dX5_which_45 : decode cX5_which 45 = .ok (.iload 4, 2) := by decide +kernel
theorem dX5_which_47 : decode cX5_which 47 = .ok (.iaload, 1) := by decide +kernel
theorem dX5_which_48 : decode cX5_which 48 = .ok (.invokevirtual 212, 3) := by decide +kernel
theorem dX5_which_51 : decode cX5_which 51 = .ok (.ifCond .eq 10, 3) := by decide +kernel
theorem dX5_which_54 : decode cX5_which 54 = .ok (.iload_n 3, 1) := by decide +kernel
theorem dX5_which_55 : decode cX5_which 55 = .ok (.iconst 1, 1) := by decide +kernel
theorem dX5_which_56 : decode cX5_which 56 = .ok (.iload 4, 2) := by decide +kernel
theorem dX5_which_58 : decode cX5_which 58 = .ok (.ishl, 1) := by decide +kernel
theorem dX5_which_59 : decode cX5_which 59 = .ok (.ior, 1) := by decide +kernel
theorem dX5_which_60 : decode cX5_which 60 = .ok (.istore_n 3, 1) := by decide +kernel
theorem dX5_which_61 : decode cX5_which 61 = .ok (.iinc 4 1, 3) := by decide +kernel
theorem dX5_which_64 : decode cX5_which 64 = .ok (.goto (-47), 3) := by decide +kernel
theorem dX5_which_67 : decode cX5_which 67 = .ok (.iload_n 3, 1) := by decide +kernel
theorem dX5_which_68 : decode cX5_which 68 = .ok (.ireturn, 1) := by decide +kernel
theorem dX5_kinds_0 : decode cX5_kinds 0 = .ok (.aload_n 0, 1) := by decide +kernel
theorem dX5_kinds_1 : decode cX5_kinds 1 = .ok (.iload_n 1, 1) := by decide +kernel
theorem dX5_kinds_2 : decode cX5_kinds 2 = .ok (.invokevirtual 209, 3) := by decide +kernel
theorem dX5_kinds_5 : decode cX5_kinds 5 = .ok (.istore_n 3, 1) := by decide +kernel
theorem dX5_kinds_6 : decode cX5_kinds 6 = .ok (.iload_n 3, 1) := by decide +kernel
theorem dX5_kinds_7 : decode cX5_kinds 7 = .ok (.ifCond .eq 5, 3) := by decide +kernel
theorem dX5_kinds_10 : decode cX5_kinds 10 = .ok (.iload_n 3, 1) := by decide +kernel
theorem dX5_kinds_11 : decode cX5_kinds 11 = .ok (.ireturn, 1) := by decide +kernel
theorem dX5_kinds_12 : decode cX5_kinds 12 = .ok (.iload_n 2, 1) := by decide +kernel
theorem dX5_kinds_13 : decode cX5_kinds 13 = .ok (.aload_n 0, 1) := by decide +kernel
theorem dX5_kinds_14 : decode cX5_kinds 14 = .ok (.getfield 10, 3) := by decide +kernel
theorem dX5_kinds_17 : decode cX5_kinds 17 = .ok (.getfield 65, 3) := by decide +kernel
theorem dX5_kinds_20 : decode cX5_kinds 20 = .ok (.invokestatic 57, 3) := by decide +kernel
theorem dX5_kinds_23 : decode cX5_kinds 23 = .ok (.ifCond .ne 9, 3) := by decide +kernel
theorem dX5_kinds_26 : decode cX5_kinds 26 = .ok (.aload_n 0, 1) := by decide +kernel
theorem dX5_kinds_27 : decode cX5_kinds 27 = .ok (.iconst 0, 1) := by decide +kernel
theorem dX5_kinds_28 : decode cX5_kinds 28 = .ok (.invokevirtual 61, 3) := by decide +kernel
theorem dX5_kinds_31 : decode cX5_kinds 31 = .ok (.ireturn, 1) := by decide +kernel
theorem dX5_kinds_32 : decode cX5_kinds 32 = .ok (.iconst 0, 1) := by decide +kernel
theorem dX5_kinds_33 : decode cX5_kinds 33 = .ok (.istore 4, 2) := by decide +kernel
theorem dX5_kinds_35 : decode cX5_kinds 35 = .ok (.iconst 0, 1) := by decide +kernel
theorem dX5_kinds_36 : decode cX5_kinds 36 = .ok (.istore 5, 2) := by decide +kernel
theorem dX5_kinds_38 : decode cX5_kinds 38 = .ok (.iload 5, 2) := by decide +kernel
theorem dX5_kinds_40 : decode cX5_kinds 40 = .ok (.bipush 7, 2) := by decide +kernel
theorem dX5_kinds_42 : decode cX5_kinds 42 = .ok (.if_icmp .ge 28, 3) := by decide +kernel
theorem dX5_kinds_45 : decode cX5_kinds 45 = .ok (.aload_n 0, 1) := by decide +kernel
theorem dX5_kinds_46 : decode cX5_kinds 46 = .ok (.aload_n 0, 1) := by decide +kernel
theorem dX5_kinds_47 : decode cX5_kinds 47 = .ok (.getfield 35, 3) := by decide +kernel
theorem dX5_kinds_50 : decode cX5_kinds 50 = .ok (.iload_n 1, 1) := by decide +kernel
theorem dX5_kinds_51 : decode cX5_kinds 51 = .ok (.aaload, 1) := by decide +kernel
theorem dX5_kinds_52 : decode cX5_kinds 52 = .ok (.iload_n 2, 1) := by decide +kernel
theorem dX5_kinds_53 : decode cX5_kinds 53 = .ok (.iload 5, 2) := by decide +kernel
theorem dX5_kinds_55 : decode cX5_kinds 55 = .ok (.invokevirtual 212, 3) := by decide +kernel
theorem dX5_kinds_58 : decode cX5_kinds 58 = .ok (.ifCond .eq 6, 3) := by decide +kernel
theorem dX5_kinds_61 : decode cX5_kinds 61 = .ok (.iinc 4 1, 3) := by decide +kernel
theorem dX5_kinds_64 : decode cX5_kinds 64 = .ok (.iinc 5 1, 3) := by decide +kernel
theorem dX5_kinds_67 : decode cX5_kinds 67 = .ok (.goto (-29), 3) := by decide +kernel
theorem dX5_kinds_70 : decode cX5_kinds 70 = .ok (.iload 4, 2) := by decide +kernel
theorem dX5_kinds_72 : decode cX5_kinds 72 = .ok (.ireturn, 1) := by decide +kernel
theorem dX5_drops_0 : decode cX5_drops 0 = .ok (.iload_n 1, 1) := by decide +kernel
theorem dX5_drops_1 : decode cX5_drops 1 = .ok (.iconst 1, 1) := by decide +kernel
theorem dX5_drops_2 : decode cX5_drops 2 = .ok (.if_icmp .lt 9, 3) := by decide +kernel
theorem dX5_drops_5 : decode cX5_drops 5 = .ok (.iload_n 1, 1) := by decide +kernel
theorem dX5_drops_6 : decode cX5_drops 6 = .ok (.bipush 20, 2) := by decide +kernel
theorem dX5_drops_8 : decode cX5_drops 8 = .ok (.if_icmp .le 9, 3) := by decide +kernel
theorem dX5_drops_11 : decode cX5_drops 11 = .ok (.aload_n 0, 1) := by decide +kernel
theorem dX5_drops_12 : decode cX5_drops 12 = .ok (.iconst 0, 1) := by decide +kernel
theorem dX5_drops_13 : decode cX5_drops 13 = .ok (.invokevirtual 61, 3) := by decide +kernel
theorem dX5_drops_16 : decode cX5_drops 16 = .ok (.ireturn, 1) := by decide +kernel
theorem dX5_drops_17 : decode cX5_drops 17 = .ok (.aload_n 0, 1) := by decide +kernel
theorem dX5_drops_18 : decode cX5_drops 18 = .ok (.getfield 10, 3) := by decide +kernel
theorem dX5_drops_21 : decode cX5_drops 21 = .ok (.getfield 119, 3) := by decide +kernel
theorem dX5_drops_24 : decode cX5_drops 24 = .ok (.iload_n 1, 1) := by decide +kernel
theorem dX5_drops_25 : decode cX5_drops 25 = .ok (.iadd, 1) := by decide +kernel
theorem dX5_drops_26 : decode cX5_drops 26 = .ok (.ldc 122, 2) := by decide +kernel
theorem dX5_drops_28 : decode cX5_drops 28 = .ok (.if_icmp .le 9, 3) := by decide +kernel
theorem dX5_drops_31 : decode cX5_drops 31 = .ok (.aload_n 0, 1) := by decide +kernel
theorem dX5_drops_32 : decode cX5_drops 32 = .ok (.iconst 4, 1) := by decide +kernel
theorem dX5_drops_33 : decode cX5_drops 33 = .ok (.invokevirtual 61, 3) := by decide +kernel
theorem dX5_drops_36 : decode cX5_drops 36 = .ok (.ireturn, 1) := by decide +kernel
theorem dX5_drops_37 : decode cX5_drops 37 = .ok (.iconst 0, 1) := by decide +kernel
theorem dX5_drops_38 : decode cX5_drops 38 = .ok (.istore_n 2, 1) := by decide +kernel
theorem dX5_drops_39 : decode cX5_drops 39 = .ok (.iconst 0, 1) := by decide +kernel
theorem dX5_drops_40 : decode cX5_drops 40 = .ok (.istore_n 3, 1) := by decide +kernel
theorem dX5_drops_41 : decode cX5_drops 41 = .ok (.iload_n 3, 1) := by decide +kernel
theorem dX5_drops_42 : decode cX5_drops 42 = .ok (.iload_n 1, 1) := by decide +kernel
theorem dX5_drops_43 : decode cX5_drops 43 = .ok (.if_icmp .ge 57, 3) := by decide +kernel
theorem dX5_drops_46 : decode cX5_drops 46 = .ok (.aload_n 0, 1) := by decide +kernel
theorem dX5_drops_47 : decode cX5_drops 47 = .ok (.getfield 10, 3) := by decide +kernel
theorem dX5_drops_50 : decode cX5_drops 50 = .ok (.invokevirtual 216, 3) := by decide +kernel
theorem dX5_drops_53 : decode cX5_drops 53 = .ok (.bipush 16, 2) := by decide +kernel
theorem dX5_drops_55 : decode cX5_drops 55 = .ok (.irem, 1) := by decide +kernel
theorem dX5_drops_56 : decode cX5_drops 56 = .ok (.istore 4, 2) := by decide +kernel
theorem dX5_drops_58 : decode cX5_drops 58 = .ok (.iload 4, 2) := by decide +kernel
theorem dX5_drops_60 : decode cX5_drops 60 = .ok (.aload_n 0, 1) := by decide +kernel
theorem dX5_drops_61 : decode cX5_drops 61 = .ok (.getfield 10, 3) := by decide +kernel
theorem dX5_drops_64 : decode cX5_drops 64 = .ok (.getfield 65, 3) := by decide +kernel
theorem dX5_drops_67 : decode cX5_drops 67 = .ok (.invokestatic 57, 3) := by decide +kernel
theorem dX5_drops_70 : decode cX5_drops 70 = .ok (.ifCond .eq 17, 3) := by decide +kernel
theorem dX5_drops_73 : decode cX5_drops 73 = .ok (.aload_n 0, 1) := by decide +kernel
theorem dX5_drops_74 : decode cX5_drops 74 = .ok (.getfield 10, 3) := by decide +kernel
theorem dX5_drops_77 : decode cX5_drops 77 = .ok (.getfield 80, 3) := by decide +kernel
theorem dX5_drops_80 : decode cX5_drops 80 = .ok (.iload 4, 2) := by decide +kernel
theorem dX5_drops_82 : decode cX5_drops 82 = .ok (.iconst 0, 1) := by decide +kernel
theorem dX5_drops_83 : decode cX5_drops 83 = .ok (.iastore, 1) := by decide +kernel
theorem dX5_drops_84 : decode cX5_drops 84 = .ok (.iinc 2 1, 3) := by decide +kernel
theorem dX5_drops_87 : decode cX5_drops 87 = .ok (.aload_n 0, 1) := by decide +kernel
theorem dX5_drops_88 : decode cX5_drops 88 = .ok (.getfield 10, 3) := by decide +kernel
theorem dX5_drops_91 : decode cX5_drops 91 = .ok (.invokevirtual 123, 3) := by decide +kernel
theorem dX5_drops_94 : decode cX5_drops 94 = .ok (.iinc 3 1, 3) := by decide +kernel
theorem dX5_drops_97 : decode cX5_drops 97 = .ok (.goto (-56), 3) := by decide +kernel
theorem dX5_drops_100 : decode cX5_drops 100 = .ok (.iload_n 2, 1) := by decide +kernel
theorem dX5_drops_101 : decode cX5_drops 101 = .ok (.ireturn, 1) := by decide +kernel
theorem dX5_odds_0 : decode cX5_odds 0 = .ok (.iload_n 1, 1) := by decide +kernel
theorem dX5_odds_1 : decode cX5_odds 1 = .ok (.bipush 14, 2) := by decide +kernel
theorem dX5_odds_3 : decode cX5_odds 3 = .ok (.invokestatic 99, 3) := by decide +kernel
theorem dX5_odds_6 : decode cX5_odds 6 = .ok (.ifCond .eq 11, 3) := by decide +kernel
theorem dX5_odds_9 : decode cX5_odds 9 = .ok (.iload_n 2, 1) := by decide +kernel
theorem dX5_odds_10 : decode cX5_odds 10 = .ok (.iconst 1, 1) := by decide +kernel
theorem dX5_odds_11 : decode cX5_odds 11 = .ok (.invokestatic 99, 3) := by decide +kernel
theorem dX5_odds_14 : decode cX5_odds 14 = .ok (.ifCond .ne 10, 3) := by decide +kernel
theorem dX5_odds_17 : decode cX5_odds 17 = .ok (.aload_n 0, 1) := by decide +kernel
theorem dX5_odds_18 : decode cX5_odds 18 = .ok (.iconst 0, 1) := by decide +kernel
theorem dX5_odds_19 : decode cX5_odds 19 = .ok (.invokevirtual 61, 3) := by decide +kernel
theorem dX5_odds_22 : decode cX5_odds 22 = .ok (.i2l, 1) := by decide +kernel
theorem dX5_odds_23 : decode cX5_odds 23 = .ok (.lreturn, 1) := by decide +kernel
theorem dX5_odds_24 : decode cX5_odds 24 = .ok (.bipush 16, 2) := by decide +kernel
theorem dX5_odds_26 : decode cX5_odds 26 = .ok (.aload_n 0, 1) := by decide +kernel
theorem dX5_odds_27 : decode cX5_odds 27 = .ok (.getfield 10, 3) := by decide +kernel
theorem dX5_odds_30 : decode cX5_odds 30 = .ok (.getfield 65, 3) := by decide +kernel
theorem dX5_odds_33 : decode cX5_odds 33 = .ok (.isub, 1) := by decide +kernel
theorem dX5_odds_34 : decode cX5_odds 34 = .ok (.istore_n 3, 1) := by decide +kernel
theorem dX5_odds_35 : decode cX5_odds 35 = .ok (.bipush 16, 2) := by decide +kernel
theorem dX5_odds_37 : decode cX5_odds 37 = .ok (.istore 4, 2) := by decide +kernel
theorem dX5_odds_39 : decode cX5_odds 39 = .ok (.iconst 0, 1) := by decide +kernel
theorem dX5_odds_40 : decode cX5_odds 40 = .ok (.istore 5, 2) := by decide +kernel
theorem dX5_odds_42 : decode cX5_odds 42 = .ok (.iload 5, 2) := by decide +kernel
theorem dX5_odds_44 : decode cX5_odds 44 = .ok (.iconst 4, 1) := by decide +kernel
theorem dX5_odds_45 : decode cX5_odds 45 = .ok (.if_icmp .ge 32, 3) := by decide +kernel
theorem dX5_odds_48 : decode cX5_odds 48 = .ok (.iload_n 3, 1) := by decide +kernel
theorem dX5_odds_49 : decode cX5_odds 49 = .ok (.iconst 2, 1) := by decide +kernel
theorem dX5_odds_50 : decode cX5_odds 50 = .ok (.irem, 1) := by decide +kernel
theorem dX5_odds_51 : decode cX5_odds 51 = .ok (.ifCond .ne 26, 3) := by decide +kernel
theorem dX5_odds_54 : decode cX5_odds 54 = .ok (.iload 4, 2) := by decide +kernel
theorem dX5_odds_56 : decode cX5_odds 56 = .ok (.iconst 2, 1) := by decide +kernel
theorem dX5_odds_57 : decode cX5_odds 57 = .ok (.irem, 1) := by decide +kernel
theorem dX5_odds_58 : decode cX5_odds 58 = .ok (.ifCond .ne 19, 3) := by decide +kernel
theorem dX5_odds_61 : decode cX5_odds 61 = .ok (.iload_n 3, 1) := by decide +kernel
theorem dX5_odds_62 : decode cX5_odds 62 = .ok (.iconst 2, 1) := by decide +kernel
theorem dX5_odds_63 : decode cX5_odds 63 = .ok (.idiv, 1) := by decide +kernel
theorem dX5_odds_64 : decode cX5_odds 64 = .ok (.istore_n 3, 1) := by decide +kernel
theorem dX5_odds_65 : decode cX5_odds 65 = .ok (.iload 4, 2) := by decide +kernel
theorem dX5_odds_67 : decode cX5_odds 67 = .ok (.iconst 2, 1) := by decide +kernel
theorem dX5_odds_68 : decode cX5_odds 68 = .ok (.idiv, 1) := by decide +kernel
theorem dX5_odds_69 : decode cX5_odds 69 = .ok (.istore 4, 2) := by decide +kernel
theorem dX5_odds_71 : decode cX5_odds 71 = .ok (.iinc 5 1, 3) := by decide +kernel
theorem dX5_odds_74 : decode cX5_odds 74 = .ok (.goto (-32), 3) := by decide +kernel
theorem dX5_odds_77 : decode cX5_odds 77 = .ok (.iload_n 2, 1) := by decide +kernel
theorem dX5_odds_78 : decode cX5_odds 78 = .ok (.ifCond .ne 7, 3) := by decide +kernel
theorem dX5_odds_81 : decode cX5_odds 81 = .ok (.iload_n 3, 1) := by decide +kernel
theorem dX5_odds_82 : decode cX5_odds 82 = .ok (.goto 5, 3) := by decide +kernel
theorem dX5_odds_85 : decode cX5_odds 85 = .ok (.iload 4, 2) := by decide +kernel
theorem dX5_odds_87 : decode cX5_odds 87 = .ok (.iload_n 1, 1) := by decide +kernel
theorem dX5_odds_88 : decode cX5_odds 88 = .ok (.invokestatic 219, 3) := by decide +kernel
theorem dX5_odds_91 : decode cX5_odds 91 = .ok (.lreturn, 1) := by decide +kernel
theorem dX5_seed_0 : decode cX5_seed 0 = .ok (.aload_n 0, 1) := by decide +kernel
theorem dX5_seed_1 : decode cX5_seed 1 = .ok (.getfield 10, 3) := by decide +kernel
theorem dX5_seed_4 : decode cX5_seed 4 = .ok (.getfield 223, 3) := by decide +kernel
theorem dX5_seed_7 : decode cX5_seed 7 = .ok (.istore_n 2, 1) := by decide +kernel
theorem dX5_seed_8 : decode cX5_seed 8 = .ok (.aload_n 0, 1) := by decide +kernel
theorem dX5_seed_9 : decode cX5_seed 9 = .ok (.getfield 10, 3) := by decide +kernel
theorem dX5_seed_12 : decode cX5_seed 12 = .ok (.iload_n 1, 1) := by decide +kernel
theorem dX5_seed_13 : decode cX5_seed 13 = .ok (.putfield 223, 3) := by decide +kernel
theorem dX5_seed_16 : decode cX5_seed 16 = .ok (.iload_n 2, 1) := by decide +kernel
theorem dX5_seed_17 : decode cX5_seed 17 = .ok (.ireturn, 1) := by decide +kernel
theorem dX5_feed_0 : decode cX5_feed 0 = .ok (.iload_n 2, 1) := by decide +kernel
theorem dX5_feed_1 : decode cX5_feed 1 = .ok (.iconst 1, 1) := by decide +kernel
theorem dX5_feed_2 : decode cX5_feed 2 = .ok (.if_icmp .lt 8, 3) := by decide +kernel
theorem dX5_feed_5 : decode cX5_feed 5 = .ok (.iload_n 2, 1) := by decide +kernel
theorem dX5_feed_6 : decode cX5_feed 6 = .ok (.iconst 4, 1) := by decide +kernel
theorem dX5_feed_7 : decode cX5_feed 7 = .ok (.if_icmp .le 9, 3) := by decide +kernel
theorem dX5_feed_10 : decode cX5_feed 10 = .ok (.aload_n 0, 1) := by decide +kernel
theorem dX5_feed_11 : decode cX5_feed 11 = .ok (.iconst 0, 1) := by decide +kernel
theorem dX5_feed_12 : decode cX5_feed 12 = .ok (.invokevirtual 61, 3) := by decide +kernel
theorem dX5_feed_15 : decode cX5_feed 15 = .ok (.ireturn, 1) := by decide +kernel
theorem dX5_feed_16 : decode cX5_feed 16 = .ok (.aload_n 0, 1) := by decide +kernel
theorem dX5_feed_17 : decode cX5_feed 17 = .ok (.getfield 29, 3) := by decide +kernel
theorem dX5_feed_20 : decode cX5_feed 20 = .ok (.getfield 226, 3) := by decide +kernel
theorem dX5_feed_23 : decode cX5_feed 23 = .ok (.getfield 230, 3) := by decide +kernel
theorem dX5_feed_26 : decode cX5_feed 26 = .ok (.iload_n 2, 1) := by decide +kernel
theorem dX5_feed_27 : decode cX5_feed 27 = .ok (.iadd, 1) := by decide +kernel
theorem dX5_feed_28 : decode cX5_feed 28 = .ok (.bipush 120, 2) := by decide +kernel
theorem dX5_feed_30 : decode cX5_feed 30 = .ok (.if_icmp .le 9, 3) := by decide +kernel
theorem dX5_feed_33 : decode cX5_feed 33 = .ok (.aload_n 0, 1) := by decide +kernel
theorem dX5_feed_34 : decode cX5_feed 34 = .ok (.iconst 1, 1) := by decide +kernel
theorem dX5_feed_35 : decode cX5_feed 35 = .ok (.invokevirtual 61, 3) := by decide +kernel
theorem dX5_feed_38 : decode cX5_feed 38 = .ok (.ireturn, 1) := by decide +kernel
theorem dX5_feed_39 : decode cX5_feed 39 = .ok (.aload_n 0, 1) := by decide +kernel
theorem dX5_feed_40 : decode cX5_feed 40 = .ok (.getfield 29, 3) := by decide +kernel
theorem dX5_feed_43 : decode cX5_feed 43 = .ok (.getfield 226, 3) := by decide +kernel
theorem dX5_feed_46 : decode cX5_feed 46 = .ok (.iload_n 1, 1) := by decide +kernel
theorem dX5_feed_47 : decode cX5_feed 47 = .ok (.iload_n 2, 1) := by decide +kernel
theorem dX5_feed_48 : decode cX5_feed 48 = .ok (.invokevirtual 235, 3) := by decide +kernel
theorem dX5_feed_51 : decode cX5_feed 51 = .ok (.aload_n 0, 1) := by decide +kernel
theorem dX5_feed_52 : decode cX5_feed 52 = .ok (.getfield 29, 3) := by decide +kernel
theorem dX5_feed_55 : decode cX5_feed 55 = .ok (.getfield 226, 3) := by decide +kernel
theorem dX5_feed_58 : decode cX5_feed 58 = .ok (.getfield 230, 3) := by decide +kernel
theorem dX5_feed_61 : decode cX5_feed 61 = .ok (.ireturn, 1) := by decide +kernel
theorem dX5_wipe_0 : decode cX5_wipe 0 = .ok (.aload_n 0, 1) := by decide +kernel
theorem dX5_wipe_1 : decode cX5_wipe 1 = .ok (.getfield 29, 3) := by decide +kernel
theorem dX5_wipe_4 : decode cX5_wipe 4 = .ok (.getfield 226, 3) := by decide +kernel
theorem dX5_wipe_7 : decode cX5_wipe 7 = .ok (.getfield 230, 3) := by decide +kernel
theorem dX5_wipe_10 : decode cX5_wipe 10 = .ok (.istore_n 1, 1) := by decide +kernel
theorem dX5_wipe_11 : decode cX5_wipe 11 = .ok (.aload_n 0, 1) := by decide +kernel
theorem dX5_wipe_12 : decode cX5_wipe 12 = .ok (.getfield 29, 3) := by decide +kernel
theorem dX5_wipe_15 : decode cX5_wipe 15 = .ok (.getfield 226, 3) := by decide +kernel
theorem dX5_wipe_18 : decode cX5_wipe 18 = .ok (.iconst 0, 1) := by decide +kernel
theorem dX5_wipe_19 : decode cX5_wipe 19 = .ok (.putfield 230, 3) := by decide +kernel
theorem dX5_wipe_22 : decode cX5_wipe 22 = .ok (.iload_n 1, 1) := by decide +kernel
theorem dX5_wipe_23 : decode cX5_wipe 23 = .ok (.ireturn, 1) := by decide +kernel
theorem dX5_text_0 : decode cX5_text 0 = .ok (.aload_n 0, 1) := by decide +kernel
theorem dX5_text_1 : decode cX5_text 1 = .ok (.getfield 19, 3) := by decide +kernel
theorem dX5_text_4 : decode cX5_text 4 = .ok (.aload_n 0, 1) := by decide +kernel
theorem dX5_text_5 : decode cX5_text 5 = .ok (.getfield 10, 3) := by decide +kernel
theorem dX5_text_8 : decode cX5_text 8 = .ok (.invokevirtual 239, 3) := by decide +kernel
theorem dX5_text_11 : decode cX5_text 11 = .ok (.aload_n 0, 1) := by decide +kernel
theorem dX5_text_12 : decode cX5_text 12 = .ok (.getfield 29, 3) := by decide +kernel
theorem dX5_text_15 : decode cX5_text 15 = .ok (.aload_n 0, 1) := by decide +kernel
theorem dX5_text_16 : decode cX5_text 16 = .ok (.getfield 19, 3) := by decide +kernel
theorem dX5_text_19 : decode cX5_text 19 = .ok (.invokevirtual 243, 3) := by decide +kernel
theorem dX5_text_22 : decode cX5_text 22 = .ok (.istore_n 1, 1) := by decide +kernel
theorem dX5_text_23 : decode cX5_text 23 = .ok (.aload_n 0, 1) := by decide +kernel
theorem dX5_text_24 : decode cX5_text 24 = .ok (.getfield 29, 3) := by decide +kernel
theorem dX5_text_27 : decode cX5_text 27 = .ok (.getfield 226, 3) := by decide +kernel
theorem dX5_text_30 : decode cX5_text 30 = .ok (.iconst 0, 1) := by decide +kernel
theorem dX5_text_31 : decode cX5_text 31 = .ok (.putfield 230, 3) := by decide +kernel
theorem dX5_text_34 : decode cX5_text 34 = .ok (.iload_n 1, 1) := by decide +kernel
theorem dX5_text_35 : decode cX5_text 35 = .ok (.ifCond .lt 14, 3) := by decide +kernel
theorem dX5_text_38 : decode cX5_text 38 = .ok (.aload_n 0, 1) := by decide +kernel
theorem dX5_text_39 : decode cX5_text 39 = .ok (.getfield 10, 3) := by decide +kernel
theorem dX5_text_42 : decode cX5_text 42 = .ok (.aload_n 0, 1) := by decide +kernel
theorem dX5_text_43 : decode cX5_text 43 = .ok (.getfield 19, 3) := by decide +kernel
theorem dX5_text_46 : decode cX5_text 46 = .ok (.invokevirtual 239, 3) := by decide +kernel
theorem dX5_text_49 : decode cX5_text 49 = .ok (.iload_n 1, 1) := by decide +kernel
theorem dX5_text_50 : decode cX5_text 50 = .ok (.ireturn, 1) := by decide +kernel
theorem dX5_hold_0 : decode cX5_hold 0 = .ok (.iload_n 1, 1) := by decide +kernel
theorem dX5_hold_1 : decode cX5_hold 1 = .ok (.bipush 10, 2) := by decide +kernel
theorem dX5_hold_3 : decode cX5_hold 3 = .ok (.invokestatic 57, 3) := by decide +kernel
theorem dX5_hold_6 : decode cX5_hold 6 = .ok (.ifCond .eq 22, 3) := by decide +kernel
theorem dX5_hold_9 : decode cX5_hold 9 = .ok (.iload_n 2, 1) := by decide +kernel
theorem dX5_hold_10 : decode cX5_hold 10 = .ok (.iconst (-1), 1) := by decide +kernel
theorem dX5_hold_11 : decode cX5_hold 11 = .ok (.if_icmp .eq 23, 3) := by decide +kernel
theorem dX5_hold_14 : decode cX5_hold 14 = .ok (.iload_n 2, 1) := by decide +kernel
theorem dX5_hold_15 : decode cX5_hold 15 = .ok (.aload_n 0, 1) := by decide +kernel
theorem dX5_hold_16 : decode cX5_hold 16 = .ok (.getfield 10, 3) := by decide +kernel
theorem dX5_hold_19 : decode cX5_hold 19 = .ok (.getfield 65, 3) := by decide +kernel
theorem dX5_hold_22 : decode cX5_hold 22 = .ok (.invokestatic 57, 3) := by decide +kernel
theorem dX5_hold_25 : decode cX5_hold 25 = .ok (.ifCond .ne 9, 3) := by decide +kernel
theorem dX5_hold_28 : decode cX5_hold 28 = .ok (.aload_n 0, 1) := by decide +kernel
theorem dX5_hold_29 : decode cX5_hold 29 = .ok (.iconst 0, 1) := by decide +kernel
theorem dX5_hold_30 : decode cX5_hold 30 = .ok (.invokevirtual 61, 3) := by decide +kernel
theorem dX5_hold_33 : decode cX5_hold 33 = .ok (.ireturn, 1) := by decide +kernel
theorem dX5_hold_34 : decode cX5_hold 34 = .ok (.aload_n 0, 1) := by decide +kernel
theorem dX5_hold_35 : decode cX5_hold 35 = .ok (.getfield 10, 3) := by decide +kernel
theorem dX5_hold_38 : decode cX5_hold 38 = .ok (.getfield 247, 3) := by decide +kernel
theorem dX5_hold_41 : decode cX5_hold 41 = .ok (.iload_n 1, 1) := by decide +kernel
theorem dX5_hold_42 : decode cX5_hold 42 = .ok (.iload_n 2, 1) := by decide +kernel
theorem dX5_hold_43 : decode cX5_hold 43 = .ok (.iastore, 1) := by decide +kernel
theorem dX5_hold_44 : decode cX5_hold 44 = .ok (.iconst 1, 1) := by decide +kernel
theorem dX5_hold_45 : decode cX5_hold 45 = .ok (.ireturn, 1) := by decide +kernel
theorem dX5_as_0 : decode cX5_as 0 = .ok (.iload_n 1, 1) := by decide +kernel
theorem dX5_as_1 : decode cX5_as 1 = .ok (.bipush 10, 2) := by decide +kernel
theorem dX5_as_3 : decode cX5_as 3 = .ok (.invokestatic 57, 3) := by decide +kernel
theorem dX5_as_6 : decode cX5_as 6 = .ok (.ifCond .eq 12, 3) := by decide +kernel
theorem dX5_as_9 : decode cX5_as 9 = .ok (.iload_n 2, 1) := by decide +kernel
theorem dX5_as_10 : decode cX5_as 10 = .ok (.bipush 7, 2) := by decide +kernel
theorem dX5_as_12 : decode cX5_as 12 = .ok (.invokestatic 57, 3) := by decide +kernel
theorem dX5_as_15 : decode cX5_as 15 = .ok (.ifCond .ne 9, 3) := by decide +kernel
theorem dX5_as_18 : decode cX5_as 18 = .ok (.aload_n 0, 1) := by decide +kernel
theorem dX5_as_19 : decode cX5_as 19 = .ok (.iconst 0, 1) := by decide +kernel
theorem dX5_as_20 : decode cX5_as 20 = .ok (.invokevirtual 61, 3) := by decide +kernel
theorem dX5_as_23 : decode cX5_as 23 = .ok (.ireturn, 1) := by decide +kernel
theorem dX5_as_24 : decode cX5_as 24 = .ok (.aload_n 0, 1) := by decide +kernel
theorem dX5_as_25 : decode cX5_as 25 = .ok (.getfield 10, 3) := by decide +kernel
theorem dX5_as_28 : decode cX5_as 28 = .ok (.getfield 247, 3) := by decide +kernel
theorem dX5_as_31 : decode cX5_as 31 = .ok (.iload_n 1, 1) := by decide +kernel
theorem dX5_as_32 : decode cX5_as 32 = .ok (.iaload, 1) := by decide +kernel
theorem dX5_as_33 : decode cX5_as 33 = .ok (.istore_n 3, 1) := by decide +kernel
theorem dX5_as_34 : decode cX5_as 34 = .ok (.iload_n 3, 1) := by decide +kernel
theorem dX5_as_35 : decode cX5_as 35 = .ok (.aload_n 0, 1) := by decide +kernel
theorem dX5_as_36 : decode cX5_as 36 = .ok (.getfield 10, 3) := by decide +kernel
theorem dX5_as_39 : decode cX5_as 39 = .ok (.getfield 65, 3) := by decide +kernel
theorem dX5_as_42 : decode cX5_as 42 = .ok (.invokestatic 57, 3) := by decide +kernel
theorem dX5_as_45 : decode cX5_as 45 = .ok (.ifCond .ne 9, 3) := by decide +kernel
theorem dX5_as_48 : decode cX5_as 48 = .ok (.aload_n 0, 1) := by decide +kernel
theorem dX5_as_49 : decode cX5_as 49 = .ok (.iconst 5, 1) := by decide +kernel
theorem dX5_as_50 : decode cX5_as 50 = .ok (.invokevirtual 61, 3) := by decide +kernel
theorem dX5_as_53 : decode cX5_as 53 = .ok (.ireturn, 1) := by decide +kernel
theorem dX5_as_54 : decode cX5_as 54 = .ok (.aload_n 0, 1) := by decide +kernel
theorem dX5_as_55 : decode cX5_as 55 = .ok (.getfield 10, 3) := by decide +kernel
theorem dX5_as_58 : decode cX5_as 58 = .ok (.getfield 77, 3) := by decide +kernel
theorem dX5_as_61 : decode cX5_as 61 = .ok (.iload_n 3, 1) := by decide +kernel
theorem dX5_as_62 : decode cX5_as 62 = .ok (.iaload, 1) := by decide +kernel
theorem dX5_as_63 : decode cX5_as 63 = .ok (.iload_n 2, 1) := by decide +kernel
theorem dX5_as_64 : decode cX5_as 64 = .ok (.invokestatic 250, 3) := by decide +kernel
theorem dX5_as_67 : decode cX5_as 67 = .ok (.ifCond .eq 7, 3) := by decide +kernel
theorem dX5_as_70 : decode cX5_as 70 = .ok (.iload_n 3, 1) := by decide +kernel
theorem dX5_as_71 : decode cX5_as 71 = .ok (.goto 8, 3) := by decide +kernel
theorem dX5_as_74 : decode cX5_as 74 = .ok (.aload_n 0, 1) := by decide +kernel
theorem dX5_as_75 : decode cX5_as 75 = .ok (.iconst 2, 1) := by decide +kernel
theorem dX5_as_76 : decode cX5_as 76 = .ok (.invokevirtual 61, 3) := by decide +kernel
theorem dX5_as_79 : decode cX5_as 79 = .ok (.ireturn, 1) := by decide +kernel
theorem dX5_sheet_0 : decode cX5_sheet 0 = .ok (.iload_n 1, 1) := by decide +kernel
theorem dX5_sheet_1 : decode cX5_sheet 1 = .ok (.iconst 4, 1) := by decide +kernel
theorem dX5_sheet_2 : decode cX5_sheet 2 = .ok (.invokestatic 57, 3) := by decide +kernel
theorem dX5_sheet_5 : decode cX5_sheet 5 = .ok (.ifCond .eq 25, 3) := by decide +kernel
theorem dX5_sheet_8 : decode cX5_sheet 8 = .ok (.iload_n 2, 1) := by decide +kernel
theorem dX5_sheet_9 : decode cX5_sheet 9 = .ok (.ifCond .eq 27, 3) := by decide +kernel
theorem dX5_sheet_12 : decode cX5_sheet 12 = .ok (.iload_n 2, 1) := by decide +kernel
theorem dX5_sheet_13 : decode cX5_sheet 13 = .ok (.bipush 8, 2) := by decide +kernel
theorem dX5_sheet_15 : decode cX5_sheet 15 = .ok (.if_icmp .eq 21, 3) := by decide +kernel
theorem dX5_sheet_18 : decode cX5_sheet 18 = .ok (.iload_n 2, 1) := by decide +kernel
theorem dX5_sheet_19 : decode cX5_sheet 19 = .ok (.bipush 16, 2) := by decide +kernel
theorem dX5_sheet_21 : decode cX5_sheet 21 = .ok (.if_icmp .eq 15, 3) := by decide +kernel
theorem dX5_sheet_24 : decode cX5_sheet 24 = .ok (.iload_n 2, 1) := by decide +kernel
theorem dX5_sheet_25 : decode cX5_sheet 25 = .ok (.bipush 32, 2) := by decide +kernel
theorem dX5_sheet_27 : decode cX5_sheet 27 = .ok (.if_icmp .eq 9, 3) := by decide +kernel
theorem dX5_sheet_30 : decode cX5_sheet 30 = .ok (.aload_n 0, 1) := by decide +kernel
theorem dX5_sheet_31 : decode cX5_sheet 31 = .ok (.iconst 0, 1) := by decide +kernel
theorem dX5_sheet_32 : decode cX5_sheet 32 = .ok (.invokevirtual 61, 3) := by decide +kernel
theorem dX5_sheet_35 : decode cX5_sheet 35 = .ok (.ireturn, 1) := by decide +kernel
theorem dX5_sheet_36 : decode cX5_sheet 36 = .ok (.iload_n 3, 1) := by decide +kernel
theorem dX5_sheet_37 : decode cX5_sheet 37 = .ok (.ifCond .ge 10, 3) := by decide +kernel
theorem dX5_sheet_40 : decode cX5_sheet 40 = .ok (.aload_n 0, 1) := by decide +kernel
theorem dX5_sheet_41 : decode cX5_sheet 41 = .ok (.bipush 6, 2) := by decide +kernel
theorem dX5_sheet_43 : decode cX5_sheet 43 = .ok (.invokevirtual 61, 3) := by decide +kernel
theorem dX5_sheet_46 : decode cX5_sheet 46 = .ok (.ireturn, 1) := by decide +kernel
theorem dX5_sheet_47 : decode cX5_sheet 47 = .ok (.iload_n 3, 1) := by decide +kernel
theorem dX5_sheet_48 : decode cX5_sheet 48 = .ok (.bipush 40, 2) := by decide +kernel
theorem dX5_sheet_50 : decode cX5_sheet 50 = .ok (.if_icmp .le 9, 3) := by decide +kernel
theorem dX5_sheet_53 : decode cX5_sheet 53 = .ok (.aload_n 0, 1) := by decide +kernel
theorem dX5_sheet_54 : decode cX5_sheet 54 = .ok (.iconst 0, 1) := by decide +kernel
theorem dX5_sheet_55 : decode cX5_sheet 55 = .ok (.invokevirtual 61, 3) := by decide +kernel
theorem dX5_sheet_58 : decode cX5_sheet 58 = .ok (.ireturn, 1) := by decide +kernel
theorem dX5_sheet_59 : decode cX5_sheet 59 = .ok (.aload_n 0, 1) := by decide +kernel
theorem dX5_sheet_60 : decode cX5_sheet 60 = .ok (.getfield 35, 3) := by decide +kernel
theorem dX5_sheet_63 : decode cX5_sheet 63 = .ok (.iload_n 1, 1) := by decide +kernel
theorem dX5_sheet_64 : decode cX5_sheet 64 = .ok (.aaload, 1) := by decide +kernel
theorem dX5_sheet_65 : decode cX5_sheet 65 = .ok (.iload_n 2, 1) := by decide +kernel
theorem dX5_sheet_66 : decode cX5_sheet 66 = .ok (.iload_n 3, 1) := by decide +kernel
theorem dX5_sheet_67 : decode cX5_sheet 67 = .ok (.invokevirtual 253, 3) := by decide +kernel
theorem dX5_sheet_70 : decode cX5_sheet 70 = .ok (.aload_n 0, 1) := by decide +kernel
theorem dX5_sheet_71 : decode cX5_sheet 71 = .ok (.getfield 35, 3) := by decide +kernel
theorem dX5_sheet_74 : decode cX5_sheet 74 = .ok (.iload_n 1, 1) := by decide +kernel
theorem dX5_sheet_75 : decode cX5_sheet 75 = .ok (.aaload, 1) := by decide +kernel
theorem dX5_sheet_76 : decode cX5_sheet 76 = .ok (.getfield 256, 3) := by decide +kernel
theorem dX5_sheet_79 : decode cX5_sheet 79 = .ok (.ireturn, 1) := by decide +kernel
theorem dX5_write_0 : decode cX5_write 0 = .ok (.aload_n 0, 1) := by decide +kernel
theorem dX5_write_1 : decode cX5_write 1 = .ok (.iload_n 1, 1) := by decide +kernel
theorem dX5_write_2 : decode cX5_write 2 = .ok (.invokevirtual 209, 3) := by decide +kernel
theorem dX5_write_5 : decode cX5_write 5 = .ok (.istore 4, 2) := by decide +kernel
theorem dX5_write_7 : decode cX5_write 7 = .ok (.iload 4, 2) := by decide +kernel
theorem dX5_write_9 : decode cX5_write 9 = .ok (.ifCond .eq 6, 3) := by decide +kernel
theorem dX5_write_12 : decode cX5_write 12 = .ok (.iload 4, 2) := by decide +kernel
theorem dX5_write_14 : decode cX5_write 14 = .ok (.ireturn, 1) := by decide +kernel
theorem dX5_write_15 : decode cX5_write 15 = .ok (.iload_n 2, 1) := by decide +kernel
theorem dX5_write_16 : decode cX5_write 16 = .ok (.aload_n 0, 1) := by decide +kernel
theorem dX5_write_17 : decode cX5_write 17 = .ok (.getfield 35, 3) := by decide +kernel
theorem dX5_write_20 : decode cX5_write 20 = .ok (.iload_n 1, 1) := by decide +kernel
theorem dX5_write_21 : decode cX5_write 21 = .ok (.aaload, 1) := by decide +kernel
theorem dX5_write_22 : decode cX5_write 22 = .ok (.getfield 256, 3) := by decide +kernel
theorem dX5_write_25 : decode cX5_write 25 = .ok (.invokestatic 57, 3) := by decide +kernel
theorem dX5_write_28 : decode cX5_write 28 = .ok (.ifCond .ne 9, 3) := by decide +kernel
theorem dX5_write_31 : decode cX5_write 31 = .ok (.aload_n 0, 1) := by decide +kernel
theorem dX5_write_32 : decode cX5_write 32 = .ok (.iconst 0, 1) := by decide +kernel
theorem dX5_write_33 : decode cX5_write 33 = .ok (.invokevirtual 61, 3) := by decide +kernel
theorem dX5_write_36 : decode cX5_write 36 = .ok (.ireturn, 1) := by decide +kernel
theorem dX5_write_37 : decode cX5_write 37 = .ok (.aload_n 0, 1) := by decide +kernel
theorem dX5_write_38 : decode cX5_write 38 = .ok (.getfield 35, 3) := by decide +kernel
theorem dX5_write_41 : decode cX5_write 41 = .ok (.iload_n 1, 1) := by decide +kernel
theorem dX5_write_42 : decode cX5_write 42 = .ok (.aaload, 1) := by decide +kernel
theorem dX5_write_43 : decode cX5_write 43 = .ok (.iload_n 2, 1) := by decide +kernel
theorem dX5_write_44 : decode cX5_write 44 = .ok (.iload_n 3, 1) := by decide +kernel
theorem dX5_write_45 : decode cX5_write 45 = .ok (.invokevirtual 257, 3) := by decide +kernel
theorem dX5_write_48 : decode cX5_write 48 = .ok (.iconst 1, 1) := by decide +kernel
theorem dX5_write_49 : decode cX5_write 49 = .ok (.ireturn, 1) := by decide +kernel
theorem dX5_copy_0 : decode cX5_copy 0 = .ok (.iload_n 1, 1) := by decide +kernel
theorem dX5_copy_1 : decode cX5_copy 1 = .ok (.iconst 4, 1) := by decide +kernel
theorem dX5_copy_2 : decode cX5_copy 2 = .ok (.invokestatic 57, 3) := by decide +kernel
theorem dX5_copy_5 : decode cX5_copy 5 = .ok (.ifCond .eq 11, 3) := by decide +kernel
theorem dX5_copy_8 : decode cX5_copy 8 = .ok (.iload_n 3, 1) := by decide +kernel
theorem dX5_copy_9 : decode cX5_copy 9 = .ok (.iconst 4, 1) := by decide +kernel
theorem dX5_copy_10 : decode cX5_copy 10 = .ok (.invokestatic 57, 3) := by decide +kernel
theorem dX5_copy_13 : decode cX5_copy 13 = .ok (.ifCond .ne 9, 3) := by decide +kernel
theorem dX5_copy_16 : decode cX5_copy 16 = .ok (.aload_n 0, 1) := by decide +kernel
theorem dX5_copy_17 : decode cX5_copy 17 = .ok (.iconst 0, 1) := by decide +kernel
theorem dX5_copy_18 : decode cX5_copy 18 = .ok (.invokevirtual 61, 3) := by decide +kernel
theorem dX5_copy_21 : decode cX5_copy 21 = .ok (.ireturn, 1) := by decide +kernel
theorem dX5_copy_22 : decode cX5_copy 22 = .ok (.aload_n 0, 1) := by decide +kernel
theorem dX5_copy_23 : decode cX5_copy 23 = .ok (.getfield 35, 3) := by decide +kernel
theorem dX5_copy_26 : decode cX5_copy 26 = .ok (.iload_n 1, 1) := by decide +kernel
theorem dX5_copy_27 : decode cX5_copy 27 = .ok (.aaload, 1) := by decide +kernel
theorem dX5_copy_28 : decode cX5_copy 28 = .ok (.astore 6, 2) := by decide +kernel
theorem dX5_copy_30 : decode cX5_copy 30 = .ok (.aload_n 0, 1) := by decide +kernel
theorem dX5_copy_31 : decode cX5_copy 31 = .ok (.getfield 35, 3) := by decide +kernel
theorem dX5_copy_34 : decode cX5_copy 34 = .ok (.iload_n 3, 1) := by decide +kernel
theorem dX5_copy_35 : decode cX5_copy 35 = .ok (.aaload, 1) := by decide +kernel
theorem dX5_copy_36 : decode cX5_copy 36 = .ok (.astore 7, 2) := by decide +kernel
theorem dX5_copy_38 : decode cX5_copy 38 = .ok (.aload 6, 2) := by decide +kernel
theorem dX5_copy_40 : decode cX5_copy 40 = .ok (.getfield 260, 3) := by decide +kernel
theorem dX5_copy_43 : decode cX5_copy 43 = .ok (.ifCond .eq 11, 3) := by decide +kernel
theorem dX5_copy_46 : decode cX5_copy 46 = .ok (.aload 7, 2) := by decide +kernel
theorem dX5_copy_48 : decode cX5_copy 48 = .ok (.getfield 260, 3) := by decide +kernel
theorem dX5_copy_51 : decode cX5_copy 51 = .ok (.ifCond .ne 9, 3) := by decide +kernel
theorem dX5_copy_54 : decode cX5_copy 54 = .ok (.aload_n 0, 1) := by decide +kernel
theorem dX5_copy_55 : decode cX5_copy 55 = .ok (.iconst 5, 1) := by decide +kernel
theorem dX5_copy_56 : decode cX5_copy 56 = .ok (.invokevirtual 61, 3) := by decide +kernel
theorem dX5_copy_59 : decode cX5_copy 59 = .ok (.ireturn, 1) := by decide +kernel
theorem dX5_copy_60 : decode cX5_copy 60 = .ok (.aload 6, 2) := by decide +kernel
theorem dX5_copy_62 : decode cX5_copy 62 = .ok (.getfield 260, 3) := by decide +kernel
theorem dX5_copy_65 : decode cX5_copy 65 = .ok (.aload 7, 2) := by decide +kernel
theorem dX5_copy_67 : decode cX5_copy 67 = .ok (.getfield 260, 3) := by decide +kernel
theorem dX5_copy_70 : decode cX5_copy 70 = .ok (.if_icmp .eq 9, 3) := by decide +kernel
theorem dX5_copy_73 : decode cX5_copy 73 = .ok (.aload_n 0, 1) := by decide +kernel
theorem dX5_copy_74 : decode cX5_copy 74 = .ok (.iconst 2, 1) := by decide +kernel
theorem dX5_copy_75 : decode cX5_copy 75 = .ok (.invokevirtual 61, 3) := by decide +kernel
theorem dX5_copy_78 : decode cX5_copy 78 = .ok (.ireturn, 1) := by decide +kernel
theorem dX5_copy_79 : decode cX5_copy 79 = .ok (.aload 6, 2) := by decide +kernel
theorem dX5_copy_81 : decode cX5_copy 81 = .ok (.iload_n 2, 1) := by decide +kernel
theorem dX5_copy_82 : decode cX5_copy 82 = .ok (.iload 5, 2) := by decide +kernel
theorem dX5_copy_84 : decode cX5_copy 84 = .ok (.invokevirtual 263, 3) := by decide +kernel
theorem dX5_copy_87 : decode cX5_copy 87 = .ok (.ifCond .eq 15, 3) := by decide +kernel
theorem dX5_copy_90 : decode cX5_copy 90 = .ok (.aload 7, 2) := by decide +kernel
theorem dX5_copy_92 : decode cX5_copy 92 = .ok (.iload 4, 2) := by decide +kernel
theorem dX5_copy_94 : decode cX5_copy 94 = .ok (.iload 5, 2) := by decide +kernel
theorem dX5_copy_96 : decode cX5_copy 96 = .ok (.invokevirtual 263, 3) := by decide +kernel
theorem dX5_copy_99 : decode cX5_copy 99 = .ok (.ifCond .ne 9, 3) := by decide +kernel
theorem dX5_copy_102 : decode cX5_copy 102 = .ok (.aload_n 0, 1) := by decide +kernel
theorem dX5_copy_103 : decode cX5_copy 103 = .ok (.iconst 0, 1) := by decide +kernel
theorem dX5_copy_104 : decode cX5_copy 104 = .ok (.invokevirtual 61, 3) := by decide +kernel
theorem dX5_copy_107 : decode cX5_copy 107 = .ok (.ireturn, 1) := by decide +kernel
theorem dX5_copy_108 : decode cX5_copy 108 = .ok (.aload 6, 2) := by decide +kernel
theorem dX5_copy_110 : decode cX5_copy 110 = .ok (.getfield 266, 3) := by decide +kernel
theorem dX5_copy_113 : decode cX5_copy 113 = .ok (.iload_n 2, 1) := by decide +kernel
theorem dX5_copy_114 : decode cX5_copy 114 = .ok (.aload 7, 2) := by decide +kernel
theorem dX5_copy_116 : decode cX5_copy 116 = .ok (.getfield 266, 3) := by decide +kernel
theorem dX5_copy_119 : decode cX5_copy 119 = .ok (.iload 4, 2) := by decide +kernel
theorem dX5_copy_121 : decode cX5_copy 121 = .ok (.iload 5, 2) := by decide +kernel
theorem dX5_copy_123 : decode cX5_copy 123 = .ok (.invokestatic 269, 3) := by decide +kernel
theorem dX5_copy_126 : decode cX5_copy 126 = .ok (.iload 5, 2) := by decide +kernel
theorem dX5_copy_128 : decode cX5_copy 128 = .ok (.ireturn, 1) := by decide +kernel
theorem dX5_load_0 : decode cX5_load 0 = .ok (.aload_n 0, 1) := by decide +kernel
theorem dX5_load_1 : decode cX5_load 1 = .ok (.iload_n 1, 1) := by decide +kernel
theorem dX5_load_2 : decode cX5_load 2 = .ok (.invokevirtual 209, 3) := by decide +kernel
theorem dX5_load_5 : decode cX5_load 5 = .ok (.istore_n 2, 1) := by decide +kernel
theorem dX5_load_6 : decode cX5_load 6 = .ok (.iload_n 2, 1) := by decide +kernel
theorem dX5_load_7 : decode cX5_load 7 = .ok (.ifCond .eq 5, 3) := by decide +kernel
theorem dX5_load_10 : decode cX5_load 10 = .ok (.iload_n 2, 1) := by decide +kernel
theorem dX5_load_11 : decode cX5_load 11 = .ok (.ireturn, 1) := by decide +kernel
theorem dX5_load_12 : decode cX5_load 12 = .ok (.aload_n 0, 1) := by decide +kernel
theorem dX5_load_13 : decode cX5_load 13 = .ok (.getfield 35, 3) := by decide +kernel
theorem dX5_load_16 : decode cX5_load 16 = .ok (.iload_n 1, 1) := by decide +kernel
theorem dX5_load_17 : decode cX5_load 17 = .ok (.aaload, 1) := by decide +kernel
theorem dX5_load_18 : decode cX5_load 18 = .ok (.astore_n 3, 1) := by decide +kernel
theorem dX5_load_19 : decode cX5_load 19 = .ok (.aload_n 3, 1) := by decide +kernel
theorem dX5_load_20 : decode cX5_load 20 = .ok (.getfield 256, 3) := by decide +kernel
theorem dX5_load_23 : decode cX5_load 23 = .ok (.aload_n 0, 1) := by decide +kernel
theorem dX5_load_24 : decode cX5_load 24 = .ok (.getfield 10, 3) := by decide +kernel
theorem dX5_load_27 : decode cX5_load 27 = .ok (.getfield 65, 3) := by decide +kernel
theorem dX5_load_30 : decode cX5_load 30 = .ok (.invokestatic 161, 3) := by decide +kernel
theorem dX5_load_33 : decode cX5_load 33 = .ok (.istore 4, 2) := by decide +kernel
theorem dX5_load_35 : decode cX5_load 35 = .ok (.iconst 0, 1) := by decide +kernel
theorem dX5_load_36 : decode cX5_load 36 = .ok (.istore 5, 2) := by decide +kernel
theorem dX5_load_38 : decode cX5_load 38 = .ok (.iload 5, 2) := by decide +kernel
theorem dX5_load_40 : decode cX5_load 40 = .ok (.iload 4, 2) := by decide +kernel
theorem dX5_load_42 : decode cX5_load 42 = .ok (.if_icmp .ge 41, 3) := by decide +kernel
theorem dX5_load_45 : decode cX5_load 45 = .ok (.aload_n 3, 1) := by decide +kernel
theorem dX5_load_46 : decode cX5_load 46 = .ok (.getfield 266, 3) := by decide +kernel
theorem dX5_load_49 : decode cX5_load 49 = .ok (.iload 5, 2) := by decide +kernel
theorem dX5_load_51 : decode cX5_load 51 = .ok (.iaload, 1) := by decide +kernel
theorem dX5_load_52 : decode cX5_load 52 = .ok (.bipush 99, 2) := by decide +kernel
theorem dX5_load_54 : decode cX5_load 54 = .ok (.invokestatic 99, 3) := by decide +kernel
theorem dX5_load_57 : decode cX5_load 57 = .ok (.ifCond .eq 26, 3) := by decide +kernel
theorem dX5_load_60 : decode cX5_load 60 = .ok (.aload_n 0, 1) := by decide +kernel
theorem dX5_load_61 : decode cX5_load 61 = .ok (.getfield 10, 3) := by decide +kernel
theorem dX5_load_64 : decode cX5_load 64 = .ok (.getfield 80, 3) := by decide +kernel
theorem dX5_load_67 : decode cX5_load 67 = .ok (.iload 5, 2) := by decide +kernel
theorem dX5_load_69 : decode cX5_load 69 = .ok (.aload_n 3, 1) := by decide +kernel
theorem dX5_load_70 : decode cX5_load 70 = .ok (.getfield 266, 3) := by decide +kernel
theorem dX5_load_73 : decode cX5_load 73 = .ok (.iload 5, 2) := by decide +kernel
theorem dX5_load_75 : decode cX5_load 75 = .ok (.iaload, 1) := by decide +kernel
theorem dX5_load_76 : decode cX5_load 76 = .ok (.iastore, 1) := by decide +kernel
theorem dX5_load_77 : decode cX5_load 77 = .ok (.iinc 5 1, 3) := by decide +kernel
theorem dX5_load_80 : decode cX5_load 80 = .ok (.goto (-42), 3) := by decide +kernel
theorem dX5_load_83 : decode cX5_load 83 = .ok (.iload 5, 2) := by decide +kernel
theorem dX5_load_85 : decode cX5_load 85 = .ok (.ireturn, 1) := by decide +kernel
theorem dX5_judge_0 : decode cX5_judge 0 = .ok (.aload_n 0, 1) := by decide +kernel
theorem dX5_judge_1 : decode cX5_judge 1 = .ok (.iload_n 1, 1) := by decide +kernel
theorem dX5_judge_2 : decode cX5_judge 2 = .ok (.invokevirtual 209, 3) := by decide +kernel
theorem dX5_judge_5 : decode cX5_judge 5 = .ok (.istore_n 2, 1) := by decide +kernel
theorem dX5_judge_6 : decode cX5_judge 6 = .ok (.iload_n 2, 1) := by decide +kernel
theorem dX5_judge_7 : decode cX5_judge 7 = .ok (.ifCond .eq 5, 3) := by decide +kernel
theorem dX5_judge_10 : decode cX5_judge 10 = .ok (.iload_n 2, 1) := by decide +kernel
theorem dX5_judge_11 : decode cX5_judge 11 = .ok (.ireturn, 1) := by decide +kernel
theorem dX5_judge_12 : decode cX5_judge 12 = .ok (.aload_n 0, 1) := by decide +kernel
theorem dX5_judge_13 : decode cX5_judge 13 = .ok (.getfield 35, 3) := by decide +kernel
theorem dX5_judge_16 : decode cX5_judge 16 = .ok (.iload_n 1, 1) := by decide +kernel
theorem dX5_judge_17 : decode cX5_judge 17 = .ok (.aaload, 1) := by decide +kernel
theorem dX5_judge_18 : decode cX5_judge 18 = .ok (.astore_n 3, 1) := by decide +kernel
theorem dX5_judge_19 : decode cX5_judge 19 = .ok (.aload_n 0, 1) := by decide +kernel
theorem dX5_judge_20 : decode cX5_judge 20 = .ok (.getfield 10, 3) := by decide +kernel
theorem dX5_judge_23 : decode cX5_judge 23 = .ok (.getfield 275, 3) := by decide +kernel
theorem dX5_judge_26 : decode cX5_judge 26 = .ok (.iconst 0, 1) := by decide +kernel
theorem dX5_judge_27 : decode cX5_judge 27 = .ok (.iaload, 1) := by decide +kernel
theorem dX5_judge_28 : decode cX5_judge 28 = .ok (.istore 4, 2) := by decide +kernel
theorem dX5_judge_30 : decode cX5_judge 30 = .ok (.aload_n 0, 1) := by decide +kernel
theorem dX5_judge_31 : decode cX5_judge 31 = .ok (.getfield 10, 3) := by decide +kernel
theorem dX5_judge_34 : decode cX5_judge 34 = .ok (.getfield 142, 3) := by decide +kernel
theorem dX5_judge_37 : decode cX5_judge 37 = .ok (.iconst 0, 1) := by decide +kernel
theorem dX5_judge_38 : decode cX5_judge 38 = .ok (.iaload, 1) := by decide +kernel
theorem dX5_judge_39 : decode cX5_judge 39 = .ok (.istore 5, 2) := by decide +kernel
theorem dX5_judge_41 : decode cX5_judge 41 = .ok (.iconst 0, 1) := by decide +kernel
theorem dX5_judge_42 : decode cX5_judge 42 = .ok (.istore 6, 2) := by decide +kernel
theorem dX5_judge_44 : decode cX5_judge 44 = .ok (.iconst 0, 1) := by decide +kernel
theorem dX5_judge_45 : decode cX5_judge 45 = .ok (.istore 7, 2) := by decide +kernel
theorem dX5_judge_47 : decode cX5_judge 47 = .ok (.iload 7, 2) := by decide +kernel
theorem dX5_judge_49 : decode cX5_judge 49 = .ok (.aload_n 3, 1) := by decide +kernel
theorem dX5_judge_50 : decode cX5_judge 50 = .ok (.getfield 256, 3) := by decide +kernel
theorem dX5_judge_53 : decode cX5_judge 53 = .ok (.if_icmp .ge 110, 3) := by decide +kernel
theorem dX5_judge_56 : decode cX5_judge 56 = .ok (.aload_n 3, 1) := by decide +kernel
theorem dX5_judge_57 : decode cX5_judge 57 = .ok (.getfield 266, 3) := by decide +kernel
theorem dX5_judge_60 : decode cX5_judge 60 = .ok (.iload 7, 2) := by decide +kernel
theorem dX5_judge_62 : decode cX5_judge 62 = .ok (.iaload, 1) := by decide +kernel
theorem dX5_judge_63 : decode cX5_judge 63 = .ok (.istore 8, 2) := by decide +kernel
theorem dX5_judge_65 : decode cX5_judge 65 = .ok (.iload 8, 2) := by decide +kernel
theorem dX5_judge_67 : decode cX5_judge 67 = .ok (.aload_n 0, 1) := by decide +kernel
theorem dX5_judge_68 : decode cX5_judge 68 = .ok (.getfield 10, 3) := by decide +kernel
theorem dX5_judge_71 : decode cX5_judge 71 = .ok (.getfield 65, 3) := by decide +kernel
theorem dX5_judge_74 : decode cX5_judge 74 = .ok (.invokestatic 57, 3) := by decide +kernel
theorem dX5_judge_77 : decode cX5_judge 77 = .ok (.ifCond .eq 14, 3) := by decide +kernel
theorem dX5_judge_80 : decode cX5_judge 80 = .ok (.iload 6, 2) := by decide +kernel
theorem dX5_judge_82 : decode cX5_judge 82 = .ok (.iload 8, 2) := by decide +kernel
theorem dX5_judge_84 : decode cX5_judge 84 = .ok (.ishr, 1) := by decide +kernel
theorem dX5_judge_85 : decode cX5_judge 85 = .ok (.iconst 1, 1) := by decide +kernel
theorem dX5_judge_86 : decode cX5_judge 86 = .ok (.iand, 1) := by decide +kernel
theorem dX5_judge_87 : decode cX5_judge 87 = .ok (.iconst 1, 1) := by decide +kernel
theorem dX5_judge_88 : decode cX5_judge 88 = .ok (.if_icmp .ne 8, 3) := by decide +kernel
theorem dX5_judge_91 : decode cX5_judge 91 = .ok (.iload 7, 2) := by decide +kernel
theorem dX5_judge_93 : decode cX5_judge 93 = .ok (.iconst 1, 1) := by decide +kernel
theorem dX5_judge_94 : decode cX5_judge 94 = .ok (.iadd, 1) := by decide +kernel
theorem dX5_judge_95 : decode cX5_judge 95 = .ok (.ireturn, 1) := by decide +kernel
theorem dX5_judge_96 : decode cX5_judge 96 = .ok (.iload 4, 2) := by decide +kernel
theorem dX5_judge_98 : decode cX5_judge 98 = .ok (.iload 5, 2) := by decide +kernel
theorem dX5_judge_100 : decode cX5_judge 100 = .ok (.aload_n 0, 1) := by decide +kernel
theorem dX5_judge_101 : decode cX5_judge 101 = .ok (.getfield 10, 3) := by decide +kernel
theorem dX5_judge_104 : decode cX5_judge 104 = .ok (.getfield 145, 3) := by decide +kernel
theorem dX5_judge_107 : decode cX5_judge 107 = .ok (.iload 8, 2) := by decide +kernel
theorem dX5_judge_109 : decode cX5_judge 109 = .ok (.iaload, 1) := by decide +kernel
theorem dX5_judge_110 : decode cX5_judge 110 = .ok (.invokestatic 115, 3) := by decide +kernel
theorem dX5_judge_113 : decode cX5_judge 113 = .ok (.aload_n 0, 1) := by decide +kernel
theorem dX5_judge_114 : decode cX5_judge 114 = .ok (.getfield 10, 3) := by decide +kernel
theorem dX5_judge_117 : decode cX5_judge 117 = .ok (.getfield 83, 3) := by decide +kernel
theorem dX5_judge_120 : decode cX5_judge 120 = .ok (.iconst 2, 1) := by decide +kernel
theorem dX5_judge_121 : decode cX5_judge 121 = .ok (.iaload, 1) := by decide +kernel
theorem dX5_judge_122 : decode cX5_judge 122 = .ok (.iadd, 1) := by decide +kernel
theorem dX5_judge_123 : decode cX5_judge 123 = .ok (.isub, 1) := by decide +kernel
theorem dX5_judge_124 : decode cX5_judge 124 = .ok (.istore 4, 2) := by decide +kernel
theorem dX5_judge_126 : decode cX5_judge 126 = .ok (.iload 4, 2) := by decide +kernel
theorem dX5_judge_128 : decode cX5_judge 128 = .ok (.ifCond .ge 8, 3) := by decide +kernel
theorem dX5_judge_131 : decode cX5_judge 131 = .ok (.iload 7, 2) := by decide +kernel
theorem dX5_judge_133 : decode cX5_judge 133 = .ok (.iconst 1, 1) := by decide +kernel
theorem dX5_judge_134 : decode cX5_judge 134 = .ok (.iadd, 1) := by decide +kernel
theorem dX5_judge_135 : decode cX5_judge 135 = .ok (.ireturn, 1) := by decide +kernel
theorem dX5_judge_136 : decode cX5_judge 136 = .ok (.aload_n 0, 1) := by decide +kernel
theorem dX5_judge_137 : decode cX5_judge 137 = .ok (.getfield 10, 3) := by decide +kernel
theorem dX5_judge_140 : decode cX5_judge 140 = .ok (.getfield 145, 3) := by decide +kernel
theorem dX5_judge_143 : decode cX5_judge 143 = .ok (.iload 8, 2) := by decide +kernel
theorem dX5_judge_145 : decode cX5_judge 145 = .ok (.iaload, 1) := by decide +kernel
theorem dX5_judge_146 : decode cX5_judge 146 = .ok (.istore 5, 2) := by decide +kernel
theorem dX5_judge_148 : decode cX5_judge 148 = .ok (.iload 6, 2) := by decide +kernel
theorem dX5_judge_150 : decode cX5_judge 150 = .ok (.iconst 1, 1) := by decide +kernel
theorem dX5_judge_151 : decode cX5_judge 151 = .ok (.iload 8, 2) := by decide +kernel
theorem dX5_judge_153 : decode cX5_judge 153 = .ok (.ishl, 1) := by decide +kernel
theorem dX5_judge_154 : decode cX5_judge 154 = .ok (.ior, 1) := by decide +kernel
theorem dX5_judge_155 : decode cX5_judge 155 = .ok (.istore 6, 2) := by decide +kernel
theorem dX5_judge_157 : decode cX5_judge 157 = .ok (.iinc 7 1, 3) := by decide +kernel
theorem dX5_judge_160 : decode cX5_judge 160 = .ok (.goto (-113), 3) := by decide +kernel
theorem dX5_judge_163 : decode cX5_judge 163 = .ok (.iconst 0, 1) := by decide +kernel
theorem dX5_judge_164 : decode cX5_judge 164 = .ok (.ireturn, 1) := by decide +kernel
theorem dX5_image_0 : decode cX5_image 0 = .ok (.aload_n 0, 1) := by decide +kernel
theorem dX5_image_1 : decode cX5_image 1 = .ok (.getfield 16, 3) := by decide +kernel
theorem dX5_image_4 : decode cX5_image 4 = .ok (.aload_n 0, 1) := by decide +kernel
theorem dX5_image_5 : decode cX5_image 5 = .ok (.getfield 10, 3) := by decide +kernel
theorem dX5_image_8 : decode cX5_image 8 = .ok (.invokevirtual 239, 3) := by decide +kernel
theorem dX5_image_11 : decode cX5_image 11 = .ok (.aload_n 0, 1) := by decide +kernel
theorem dX5_image_12 : decode cX5_image 12 = .ok (.iconst 1, 1) := by decide +kernel
theorem dX5_image_13 : decode cX5_image 13 = .ok (.putfield 22, 3) := by decide +kernel
theorem dX5_image_16 : decode cX5_image 16 = .ok (.iconst 1, 1) := by decide +kernel
theorem dX5_image_17 : decode cX5_image 17 = .ok (.ireturn, 1) := by decide +kernel
theorem dX5_undo_0 : decode cX5_undo 0 = .ok (.aload_n 0, 1) := by decide +kernel
theorem dX5_undo_1 : decode cX5_undo 1 = .ok (.getfield 22, 3) := by decide +kernel
theorem dX5_undo_4 : decode cX5_undo 4 = .ok (.ifCond .ne 9, 3) := by decide +kernel
theorem dX5_undo_7 : decode cX5_undo 7 = .ok (.aload_n 0, 1) := by decide +kernel
theorem dX5_undo_8 : decode cX5_undo 8 = .ok (.iconst 3, 1) := by decide +kernel
theorem dX5_undo_9 : decode cX5_undo 9 = .ok (.invokevirtual 61, 3) := by decide +kernel
theorem dX5_undo_12 : decode cX5_undo 12 = .ok (.ireturn, 1) := by decide +kernel
theorem dX5_undo_13 : decode cX5_undo 13 = .ok (.aload_n 0, 1) := by decide +kernel
theorem dX5_undo_14 : decode cX5_undo 14 = .ok (.getfield 10, 3) := by decide +kernel
theorem dX5_undo_17 : decode cX5_undo 17 = .ok (.aload_n 0, 1) := by decide +kernel
theorem dX5_undo_18 : decode cX5_undo 18 = .ok (.getfield 16, 3) := by decide +kernel
theorem dX5_undo_21 : decode cX5_undo 21 = .ok (.invokevirtual 239, 3) := by decide +kernel
theorem dX5_undo_24 : decode cX5_undo 24 = .ok (.aload_n 0, 1) := by decide +kernel
theorem dX5_undo_25 : decode cX5_undo 25 = .ok (.getfield 10, 3) := by decide +kernel
theorem dX5_undo_28 : decode cX5_undo 28 = .ok (.getfield 119, 3) := by decide +kernel
theorem dX5_undo_31 : decode cX5_undo 31 = .ok (.ireturn, 1) := by decide +kernel
theorem dX5_tear_0 : decode cX5_tear 0 = .ok (.aload_n 0, 1) := by decide +kernel
theorem dX5_tear_1 : decode cX5_tear 1 = .ok (.getfield 22, 3) := by decide +kernel
theorem dX5_tear_4 : decode cX5_tear 4 = .ok (.ifCond .eq 7, 3) := by decide +kernel
theorem dX5_tear_7 : decode cX5_tear 7 = .ok (.iconst 1, 1) := by decide +kernel
theorem dX5_tear_8 : decode cX5_tear 8 = .ok (.goto 4, 3) := by decide +kernel
theorem dX5_tear_11 : decode cX5_tear 11 = .ok (.iconst 0, 1) := by decide +kernel
theorem dX5_tear_12 : decode cX5_tear 12 = .ok (.istore_n 1, 1) := by decide +kernel
theorem dX5_tear_13 : decode cX5_tear 13 = .ok (.aload_n 0, 1) := by decide +kernel
theorem dX5_tear_14 : decode cX5_tear 14 = .ok (.iconst 0, 1) := by decide +kernel
theorem dX5_tear_15 : decode cX5_tear 15 = .ok (.putfield 22, 3) := by decide +kernel
theorem dX5_tear_18 : decode cX5_tear 18 = .ok (.iload_n 1, 1) := by decide +kernel
theorem dX5_tear_19 : decode cX5_tear 19 = .ok (.ireturn, 1) := by decide +kernel
theorem dX5_count_0 : decode cX5_count 0 = .ok (.iload_n 1, 1) := by decide +kernel
theorem dX5_count_1 : decode cX5_count 1 = .ok (.tableswitch 124 0 7 #[47, 55, 63, 81, 89, 97, 108, 116], 47) := by decide +kernel
theorem dX5_count_48 : decode cX5_count 48 = .ok (.aload_n 0, 1) := by decide +kernel
theorem dX5_count_49 : decode cX5_count 49 = .ok (.getfield 10, 3) := by decide +kernel
theorem dX5_count_52 : decode cX5_count 52 = .ok (.getfield 119, 3) := by decide +kernel
theorem dX5_count_55 : decode cX5_count 55 = .ok (.ireturn, 1) := by decide +kernel
theorem dX5_count_56 : decode cX5_count 56 = .ok (.aload_n 0, 1) := by decide +kernel
theorem dX5_count_57 : decode cX5_count 57 = .ok (.getfield 10, 3) := by decide +kernel
theorem dX5_count_60 : decode cX5_count 60 = .ok (.getfield 65, 3) := by decide +kernel
theorem dX5_count_63 : decode cX5_count 63 = .ok (.ireturn, 1) := by decide +kernel
theorem dX5_count_64 : decode cX5_count 64 = .ok (.aload_n 0, 1) := by decide +kernel
theorem dX5_count_65 : decode cX5_count 65 = .ok (.getfield 10, 3) := by decide +kernel
theorem dX5_count_68 : decode cX5_count 68 = .ok (.aload_n 0, 1) := by decide +kernel
theorem dX5_count_69 : decode cX5_count 69 = .ok (.getfield 10, 3) := by decide +kernel
theorem dX5_count_72 : decode cX5_count 72 = .ok (.getfield 80, 3) := by decide +kernel
theorem dX5_count_75 : decode cX5_count 75 = .ok (.invokevirtual 126, 3) := by decide +kernel
theorem dX5_count_78 : decode cX5_count 78 = .ok (.invokestatic 130, 3) := by decide +kernel
theorem dX5_count_81 : decode cX5_count 81 = .ok (.ireturn, 1) := by decide +kernel
theorem dX5_count_82 : decode cX5_count 82 = .ok (.aload_n 0, 1) := by decide +kernel
theorem dX5_count_83 : decode cX5_count 83 = .ok (.getfield 10, 3) := by decide +kernel
theorem dX5_count_86 : decode cX5_count 86 = .ok (.getfield 194, 3) := by decide +kernel
theorem dX5_count_89 : decode cX5_count 89 = .ok (.ireturn, 1) := by decide +kernel
theorem dX5_count_90 : decode cX5_count 90 = .ok (.aload_n 0, 1) := by decide +kernel
theorem dX5_count_91 : decode cX5_count 91 = .ok (.getfield 10, 3) := by decide +kernel
theorem dX5_count_94 : decode cX5_count 94 = .ok (.invokevirtual 135, 3) := by decide +kernel
theorem dX5_count_97 : decode cX5_count 97 = .ok (.ireturn, 1) := by decide +kernel
theorem dX5_count_98 : decode cX5_count 98 = .ok (.aload_n 0, 1) := by decide +kernel
theorem dX5_count_99 : decode cX5_count 99 = .ok (.getfield 29, 3) := by decide +kernel
theorem dX5_count_102 : decode cX5_count 102 = .ok (.getfield 226, 3) := by decide +kernel
theorem dX5_count_105 : decode cX5_count 105 = .ok (.getfield 230, 3) := by decide +kernel
theorem dX5_count_108 : decode cX5_count 108 = .ok (.ireturn, 1) := by decide +kernel
theorem dX5_count_109 : decode cX5_count 109 = .ok (.aload_n 0, 1) := by decide +kernel
theorem dX5_count_110 : decode cX5_count 110 = .ok (.getfield 10, 3) := by decide +kernel
theorem dX5_count_113 : decode cX5_count 113 = .ok (.getfield 223, 3) := by decide +kernel
theorem dX5_count_116 : decode cX5_count 116 = .ok (.ireturn, 1) := by decide +kernel
theorem dX5_count_117 : decode cX5_count 117 = .ok (.aload_n 0, 1) := by decide +kernel
theorem dX5_count_118 : decode cX5_count 118 = .ok (.getfield 10, 3) := by decide +kernel
theorem dX5_count_121 : decode cX5_count 121 = .ok (.invokevirtual 278, 3) := by decide +kernel
theorem dX5_count_124 : decode cX5_count 124 = .ok (.ireturn, 1) := by decide +kernel
theorem dX5_count_125 : decode cX5_count 125 = .ok (.aload_n 0, 1) := by decide +kernel
theorem dX5_count_126 : decode cX5_count 126 = .ok (.iconst 0, 1) := by decide +kernel
theorem dX5_count_127 : decode cX5_count 127 = .ok (.invokevirtual 61, 3) := by decide +kernel
theorem dX5_count_130 : decode cX5_count 130 = .ok (.ireturn, 1) := by decide +kernel
theorem dX5_status_0 : decode cX5_status 0 = .ok (.iload_n 1, 1) := by decide +kernel
theorem dX5_status_1 : decode cX5_status 1 = .ok (.iconst (-1), 1) := by decide +kernel
theorem dX5_status_2 : decode cX5_status 2 = .ok (.if_icmp .ne 30, 3) := by decide +kernel
theorem dX5_status_5 : decode cX5_status 5 = .ok (.iconst 0, 1) := by decide +kernel
theorem dX5_status_6 : decode cX5_status 6 = .ok (.istore_n 2, 1) := by decide +kernel
theorem dX5_status_7 : decode cX5_status 7 = .ok (.iconst 0, 1) := by decide +kernel
theorem dX5_status_8 : decode cX5_status 8 = .ok (.istore_n 3, 1) := by decide +kernel
theorem dX5_status_9 : decode cX5_status 9 = .ok (.iload_n 3, 1) := by decide +kernel
theorem dX5_status_10 : decode cX5_status 10 = .ok (.bipush 7, 2) := by decide +kernel
theorem dX5_status_12 : decode cX5_status 12 = .ok (.if_icmp .ge 18, 3) := by decide +kernel
theorem dX5_status_15 : decode cX5_status 15 = .ok (.iload_n 2, 1) := by decide +kernel
theorem dX5_status_16 : decode cX5_status 16 = .ok (.aload_n 0, 1) := by decide +kernel
theorem dX5_status_17 : decode cX5_status 17 = .ok (.getfield 53, 3) := by decide +kernel
theorem dX5_status_20 : decode cX5_status 20 = .ok (.iload_n 3, 1) := by decide +kernel
theorem dX5_status_21 : decode cX5_status 21 = .ok (.iaload, 1) := by decide +kernel
theorem dX5_status_22 : decode cX5_status 22 = .ok (.iadd, 1) := by decide +kernel
theorem dX5_status_23 : decode cX5_status 23 = .ok (.istore_n 2, 1) := by decide +kernel
theorem dX5_status_24 : decode cX5_status 24 = .ok (.iinc 3 1, 3) := by decide +kernel
theorem dX5_status_27 : decode cX5_status 27 = .ok (.goto (-18), 3) := by decide +kernel
theorem dX5_status_30 : decode cX5_status 30 = .ok (.iload_n 2, 1) := by decide +kernel
theorem dX5_status_31 : decode cX5_status 31 = .ok (.ireturn, 1) := by decide +kernel
theorem dX5_status_32 : decode cX5_status 32 = .ok (.iload_n 1, 1) := by decide +kernel
theorem dX5_status_33 : decode cX5_status 33 = .ok (.bipush 7, 2) := by decide +kernel
theorem dX5_status_35 : decode cX5_status 35 = .ok (.invokestatic 57, 3) := by decide +kernel
theorem dX5_status_38 : decode cX5_status 38 = .ok (.ifCond .ne 9, 3) := by decide +kernel
theorem dX5_status_41 : decode cX5_status 41 = .ok (.aload_n 0, 1) := by decide +kernel
theorem dX5_status_42 : decode cX5_status 42 = .ok (.iconst 0, 1) := by decide +kernel
theorem dX5_status_43 : decode cX5_status 43 = .ok (.invokevirtual 61, 3) := by decide +kernel
theorem dX5_status_46 : decode cX5_status 46 = .ok (.ireturn, 1) := by decide +kernel
theorem dX5_status_47 : decode cX5_status 47 = .ok (.aload_n 0, 1) := by decide +kernel
theorem dX5_status_48 : decode cX5_status 48 = .ok (.getfield 53, 3) := by decide +kernel
theorem dX5_status_51 : decode cX5_status 51 = .ok (.iload_n 1, 1) := by decide +kernel
theorem dX5_status_52 : decode cX5_status 52 = .ok (.iaload, 1) := by decide +kernel
theorem dX5_status_53 : decode cX5_status 53 = .ok (.ireturn, 1) := by decide +kernel
theorem dX5_finding_0 : decode cX5_finding 0 = .ok (.aload_n 0, 1) := by decide +kernel
theorem dX5_finding_1 : decode cX5_finding 1 = .ok (.getfield 53, 3) := by decide +kernel
theorem dX5_finding_4 : decode cX5_finding 4 = .ok (.iload_n 1, 1) := by decide +kernel
theorem dX5_finding_5 : decode cX5_finding 5 = .ok (.dup2, 1) := by decide +kernel
theorem dX5_finding_6 : decode cX5_finding 6 = .ok (.iaload, 1) := by decide +kernel
theorem dX5_finding_7 : decode cX5_finding 7 = .ok (.iconst 1, 1) := by decide +kernel
theorem dX5_finding_8 : decode cX5_finding 8 = .ok (.iadd, 1) := by decide +kernel
theorem dX5_finding_9 : decode cX5_finding 9 = .ok (.iastore, 1) := by decide +kernel
theorem dX5_finding_10 : decode cX5_finding 10 = .ok (.ldc_w 281, 3) := by decide +kernel
theorem dX5_finding_13 : decode cX5_finding 13 = .ok (.iload_n 1, 1) := by decide +kernel
theorem dX5_finding_14 : decode cX5_finding 14 = .ok (.isub, 1) := by decide +kernel
theorem dX5_finding_15 : decode cX5_finding 15 = .ok (.ireturn, 1) := by decide +kernel
theorem dX5_isBelow_0 : decode cX5_isBelow 0 = .ok (.iload_n 0, 1) := by decide +kernel
theorem dX5_isBelow_1 : decode cX5_isBelow 1 = .ok (.ifCond .lt 12, 3) := by decide +kernel
theorem dX5_isBelow_4 : decode cX5_isBelow 4 = .ok (.iload_n 0, 1) := by decide +kernel
theorem dX5_isBelow_5 : decode cX5_isBelow 5 = .ok (.iload_n 1, 1) := by decide +kernel
theorem dX5_isBelow_6 : decode cX5_isBelow 6 = .ok (.if_icmp .ge 7, 3) := by decide +kernel
theorem dX5_isBelow_9 : decode cX5_isBelow 9 = .ok (.iconst 1, 1) := by decide +kernel
theorem dX5_isBelow_10 : decode cX5_isBelow 10 = .ok (.goto 4, 3) := by decide +kernel
theorem dX5_isBelow_13 : decode cX5_isBelow 13 = .ok (.iconst 0, 1) := by decide +kernel
theorem dX5_isBelow_14 : decode cX5_isBelow 14 = .ok (.ireturn, 1) := by decide +kernel
theorem dX5_isWithin_0 : decode cX5_isWithin 0 = .ok (.iload_n 0, 1) := by decide +kernel
theorem dX5_isWithin_1 : decode cX5_isWithin 1 = .ok (.ifCond .lt 12, 3) := by decide +kernel
theorem dX5_isWithin_4 : decode cX5_isWithin 4 = .ok (.iload_n 0, 1) := by decide +kernel
theorem dX5_isWithin_5 : decode cX5_isWithin 5 = .ok (.iload_n 1, 1) := by decide +kernel
theorem dX5_isWithin_6 : decode cX5_isWithin 6 = .ok (.if_icmp .gt 7, 3) := by decide +kernel
theorem dX5_isWithin_9 : decode cX5_isWithin 9 = .ok (.iconst 1, 1) := by decide +kernel
theorem dX5_isWithin_10 : decode cX5_isWithin 10 = .ok (.goto 4, 3) := by decide +kernel
theorem dX5_isWithin_13 : decode cX5_isWithin 13 = .ok (.iconst 0, 1) := by decide +kernel
theorem dX5_isWithin_14 : decode cX5_isWithin 14 = .ok (.ireturn, 1) := by decide +kernel
theorem dX5_isSetOfStars_0 : decode cX5_isSetOfStars 0 = .ok (.iload_n 1, 1) := by decide +kernel
theorem dX5_isSetOfStars_1 : decode cX5_isSetOfStars 1 = .ok (.iconst 1, 1) := by decide +kernel
theorem dX5_isSetOfStars_2 : decode cX5_isSetOfStars 2 = .ok (.aload_n 0, 1) := by decide +kernel
theorem dX5_isSetOfStars_3 : decode cX5_isSetOfStars 3 = .ok (.getfield 10, 3) := by decide +kernel
theorem dX5_isSetOfStars_6 : decode cX5_isSetOfStars 6 = .ok (.getfield 65, 3) := by decide +kernel
theorem dX5_isSetOfStars_9 : decode cX5_isSetOfStars 9 = .ok (.ishl, 1) := by decide +kernel
theorem dX5_isSetOfStars_10 : decode cX5_isSetOfStars 10 = .ok (.invokestatic 57, 3) := by decide +kernel
theorem dX5_isSetOfStars_13 : decode cX5_isSetOfStars 13 = .ok (.ireturn, 1) := by decide +kernel
theorem dX5_replaced_0 : decode cX5_replaced 0 = .ok (.aload_n 0, 1) := by decide +kernel
theorem dX5_replaced_1 : decode cX5_replaced 1 = .ok (.iload_n 1, 1) := by decide +kernel
theorem dX5_replaced_2 : decode cX5_replaced 2 = .ok (.iaload, 1) := by decide +kernel
theorem dX5_replaced_3 : decode cX5_replaced 3 = .ok (.istore_n 3, 1) := by decide +kernel
theorem dX5_replaced_4 : decode cX5_replaced 4 = .ok (.aload_n 0, 1) := by decide +kernel
theorem dX5_replaced_5 : decode cX5_replaced 5 = .ok (.iload_n 1, 1) := by decide +kernel
theorem dX5_replaced_6 : decode cX5_replaced 6 = .ok (.iload_n 2, 1) := by decide +kernel
theorem dX5_replaced_7 : decode cX5_replaced 7 = .ok (.iastore, 1) := by decide +kernel
theorem dX5_replaced_8 : decode cX5_replaced 8 = .ok (.iload_n 3, 1) := by decide +kernel
theorem dX5_replaced_9 : decode cX5_replaced 9 = .ok (.ireturn, 1) := by decide +kernel
theorem dX5_stepsBetween_0 : decode cX5_stepsBetween 0 = .ok (.iload_n 0, 1) := by decide +kernel
theorem dX5_stepsBetween_1 : decode cX5_stepsBetween 1 = .ok (.iload_n 1, 1) := by decide +kernel
theorem dX5_stepsBetween_2 : decode cX5_stepsBetween 2 = .ok (.isub, 1) := by decide +kernel
theorem dX5_stepsBetween_3 : decode cX5_stepsBetween 3 = .ok (.invokestatic 282, 3) := by decide +kernel
theorem dX5_stepsBetween_6 : decode cX5_stepsBetween 6 = .ok (.istore_n 2, 1) := by decide +kernel
theorem dX5_stepsBetween_7 : decode cX5_stepsBetween 7 = .ok (.iload_n 2, 1) := by decide +kernel
theorem dX5_stepsBetween_8 : decode cX5_stepsBetween 8 = .ok (.bipush 100, 2) := by decide +kernel
theorem dX5_stepsBetween_10 : decode cX5_stepsBetween 10 = .ok (.iload_n 2, 1) := by decide +kernel
theorem dX5_stepsBetween_11 : decode cX5_stepsBetween 11 = .ok (.isub, 1) := by decide +kernel
theorem dX5_stepsBetween_12 : decode cX5_stepsBetween 12 = .ok (.invokestatic 161, 3) := by decide +kernel
theorem dX5_stepsBetween_15 : decode cX5_stepsBetween 15 = .ok (.ireturn, 1) := by decide +kernel
theorem dX5_power_0 : decode cX5_power 0 = .ok (.lconst 1, 1) := by decide +kernel
theorem dX5_power_1 : decode cX5_power 1 = .ok (.lstore_n 2, 1) := by decide +kernel
theorem dX5_power_2 : decode cX5_power 2 = .ok (.iconst 0, 1) := by decide +kernel
theorem dX5_power_3 : decode cX5_power 3 = .ok (.istore 4, 2) := by decide +kernel
theorem dX5_power_5 : decode cX5_power 5 = .ok (.iload 4, 2) := by decide +kernel
theorem dX5_power_7 : decode cX5_power 7 = .ok (.iload_n 1, 1) := by decide +kernel
theorem dX5_power_8 : decode cX5_power 8 = .ok (.if_icmp .ge 14, 3) := by decide +kernel
theorem dX5_power_11 : decode cX5_power 11 = .ok (.lload_n 2, 1) := by decide +kernel
theorem dX5_power_12 : decode cX5_power 12 = .ok (.iload_n 0, 1) := by decide +kernel
theorem dX5_power_13 : decode cX5_power 13 = .ok (.i2l, 1) := by decide +kernel
theorem dX5_power_14 : decode cX5_power 14 = .ok (.lmul, 1) := by decide +kernel
theorem dX5_power_15 : decode cX5_power 15 = .ok (.lstore_n 2, 1) := by decide +kernel
theorem dX5_power_16 : decode cX5_power 16 = .ok (.iinc 4 1, 3) := by decide +kernel
theorem dX5_power_19 : decode cX5_power 19 = .ok (.goto (-14), 3) := by decide +kernel
theorem dX5_power_22 : decode cX5_power 22 = .ok (.lload_n 2, 1) := by decide +kernel
theorem dX5_power_23 : decode cX5_power 23 = .ok (.lreturn, 1) := by decide +kernel
theorem dX5_isUnder_0 : decode cX5_isUnder 0 = .ok (.iload_n 0, 1) := by decide +kernel
theorem dX5_isUnder_1 : decode cX5_isUnder 1 = .ok (.istore_n 2, 1) := by decide +kernel
theorem dX5_isUnder_2 : decode cX5_isUnder 2 = .ok (.iconst 0, 1) := by decide +kernel
theorem dX5_isUnder_3 : decode cX5_isUnder 3 = .ok (.istore_n 3, 1) := by decide +kernel
theorem dX5_isUnder_4 : decode cX5_isUnder 4 = .ok (.iload_n 3, 1) := by decide +kernel
theorem dX5_isUnder_5 : decode cX5_isUnder 5 = .ok (.bipush 7, 2) := by decide +kernel
theorem dX5_isUnder_7 : decode cX5_isUnder 7 = .ok (.if_icmp .ge 25, 3) := by decide +kernel
theorem dX5_isUnder_10 : decode cX5_isUnder 10 = .ok (.iload_n 2, 1) := by decide +kernel
theorem dX5_isUnder_11 : decode cX5_isUnder 11 = .ok (.ifCond .lt 21, 3) := by decide +kernel
theorem dX5_isUnder_14 : decode cX5_isUnder 14 = .ok (.iload_n 2, 1) := by decide +kernel
theorem dX5_isUnder_15 : decode cX5_isUnder 15 = .ok (.iload_n 1, 1) := by decide +kernel
theorem dX5_isUnder_16 : decode cX5_isUnder 16 = .ok (.if_icmp .ne 5, 3) := by decide +kernel
theorem dX5_isUnder_19 : decode cX5_isUnder 19 = .ok (.iconst 1, 1) := by decide +kernel
theorem dX5_isUnder_20 : decode cX5_isUnder 20 = .ok (.ireturn, 1) := by decide +kernel
theorem dX5_isUnder_21 : decode cX5_isUnder 21 = .ok (.iload_n 2, 1) := by decide +kernel
theorem dX5_isUnder_22 : decode cX5_isUnder 22 = .ok (.invokestatic 285, 3) := by decide +kernel
theorem dX5_isUnder_25 : decode cX5_isUnder 25 = .ok (.istore_n 2, 1) := by decide +kernel
theorem dX5_isUnder_26 : decode cX5_isUnder 26 = .ok (.iinc 3 1, 3) := by decide +kernel
theorem dX5_isUnder_29 : decode cX5_isUnder 29 = .ok (.goto (-25), 3) := by decide +kernel
theorem dX5_isUnder_32 : decode cX5_isUnder 32 = .ok (.iconst 0, 1) := by decide +kernel
theorem dX5_isUnder_33 : decode cX5_isUnder 33 = .ok (.ireturn, 1) := by decide +kernel
theorem dX5_kindOver_0 : decode cX5_kindOver 0 = .ok (.iload_n 0, 1) := by decide +kernel
theorem dX5_kindOver_1 : decode cX5_kindOver 1 = .ok (.tableswitch 47 1 6 #[39, 39, 41, 43, 39, 45], 39) := by decide +kernel
theorem dX5_kindOver_40 : decode cX5_kindOver 40 = .ok (.iconst 0, 1) := by decide +kernel
theorem dX5_kindOver_41 : decode cX5_kindOver 41 = .ok (.ireturn, 1) := by decide +kernel
theorem dX5_kindOver_42 : decode cX5_kindOver 42 = .ok (.iconst 2, 1) := by decide +kernel
theorem dX5_kindOver_43 : decode cX5_kindOver 43 = .ok (.ireturn, 1) := by decide +kernel
theorem dX5_kindOver_44 : decode cX5_kindOver 44 = .ok (.iconst 3, 1) := by decide +kernel
theorem dX5_kindOver_45 : decode cX5_kindOver 45 = .ok (.ireturn, 1) := by decide +kernel
theorem dX5_kindOver_46 : decode cX5_kindOver 46 = .ok (.iconst 1, 1) := by decide +kernel
theorem dX5_kindOver_47 : decode cX5_kindOver 47 = .ok (.ireturn, 1) := by decide +kernel
theorem dX5_kindOver_48 : decode cX5_kindOver 48 = .ok (.iconst (-1), 1) := by decide +kernel
theorem dX5_kindOver_49 : decode cX5_kindOver 49 = .ok (.ireturn, 1) := by decide +kernel
theorem dX5_copyLives_0 : decode cX5_copyLives 0 = .ok (.aload_n 0, 1) := by decide +kernel
theorem dX5_copyLives_1 : decode cX5_copyLives 1 = .ok (.getfield 10, 3) := by decide +kernel
theorem dX5_copyLives_4 : decode cX5_copyLives 4 = .ok (.getfield 80, 3) := by decide +kernel
theorem dX5_copyLives_7 : decode cX5_copyLives 7 = .ok (.iconst 0, 1) := by decide +kernel
theorem dX5_copyLives_8 : decode cX5_copyLives 8 = .ok (.aload_n 0, 1) := by decide +kernel
theorem dX5_copyLives_9 : decode cX5_copyLives 9 = .ok (.getfield 49, 3) := by decide +kernel
theorem dX5_copyLives_12 : decode cX5_copyLives 12 = .ok (.iconst 0, 1) := by decide +kernel
theorem dX5_copyLives_13 : decode cX5_copyLives 13 = .ok (.bipush 10, 2) := by decide +kernel
theorem dX5_copyLives_15 : decode cX5_copyLives 15 = .ok (.invokestatic 269, 3) := by decide +kernel
theorem dX5_copyLives_18 : decode cX5_copyLives 18 = .ok (.return_, 1) := by decide +kernel
theorem dX5_bestSet_0 : decode cX5_bestSet 0 = .ok (.aload_n 0, 1) := by decide +kernel
theorem dX5_bestSet_1 : decode cX5_bestSet 1 = .ok (.getfield 42, 3) := by decide +kernel
theorem dX5_bestSet_4 : decode cX5_bestSet 4 = .ok (.aload_n 0, 1) := by decide +kernel
theorem dX5_bestSet_5 : decode cX5_bestSet 5 = .ok (.getfield 10, 3) := by decide +kernel
theorem dX5_bestSet_8 : decode cX5_bestSet 8 = .ok (.aload_n 0, 1) := by decide +kernel
theorem dX5_bestSet_9 : decode cX5_bestSet 9 = .ok (.getfield 10, 3) := by decide +kernel
theorem dX5_bestSet_12 : decode cX5_bestSet 12 = .ok (.getfield 142, 3) := by decide +kernel
theorem dX5_bestSet_15 : decode cX5_bestSet 15 = .ok (.iload_n 1, 1) := by decide +kernel
theorem dX5_bestSet_16 : decode cX5_bestSet 16 = .ok (.iaload, 1) := by decide +kernel
theorem dX5_bestSet_17 : decode cX5_bestSet 17 = .ok (.invokevirtual 173, 3) := by decide +kernel
theorem dX5_bestSet_20 : decode cX5_bestSet 20 = .ok (.iconst 0, 1) := by decide +kernel
theorem dX5_bestSet_21 : decode cX5_bestSet 21 = .ok (.istore_n 2, 1) := by decide +kernel
theorem dX5_bestSet_22 : decode cX5_bestSet 22 = .ok (.iconst 0, 1) := by decide +kernel
theorem dX5_bestSet_23 : decode cX5_bestSet 23 = .ok (.istore_n 3, 1) := by decide +kernel
theorem dX5_bestSet_24 : decode cX5_bestSet 24 = .ok (.iconst 1, 1) := by decide +kernel
theorem dX5_bestSet_25 : decode cX5_bestSet 25 = .ok (.istore 4, 2) := by decide +kernel
theorem dX5_bestSet_27 : decode cX5_bestSet 27 = .ok (.iload 4, 2) := by decide +kernel
theorem dX5_bestSet_29 : decode cX5_bestSet 29 = .ok (.iconst 1, 1) := by decide +kernel
theorem dX5_bestSet_30 : decode cX5_bestSet 30 = .ok (.aload_n 0, 1) := by decide +kernel
theorem dX5_bestSet_31 : decode cX5_bestSet 31 = .ok (.getfield 10, 3) := by decide +kernel
theorem dX5_bestSet_34 : decode cX5_bestSet 34 = .ok (.getfield 65, 3) := by decide +kernel
theorem dX5_bestSet_37 : decode cX5_bestSet 37 = .ok (.ishl, 1) := by decide +kernel
theorem dX5_bestSet_38 : decode cX5_bestSet 38 = .ok (.if_icmp .ge 70, 3) := by decide +kernel
theorem dX5_bestSet_41 : decode cX5_bestSet 41 = .ok (.aload_n 0, 1) := by decide +kernel
theorem dX5_bestSet_42 : decode cX5_bestSet 42 = .ok (.getfield 10, 3) := by decide +kernel
theorem dX5_bestSet_45 : decode cX5_bestSet 45 = .ok (.iload 4, 2) := by decide +kernel
theorem dX5_bestSet_47 : decode cX5_bestSet 47 = .ok (.invokevirtual 139, 3) := by decide +kernel
theorem dX5_bestSet_50 : decode cX5_bestSet 50 = .ok (.istore 5, 2) := by decide +kernel
theorem dX5_bestSet_52 : decode cX5_bestSet 52 = .ok (.iload 5, 2) := by decide +kernel
theorem dX5_bestSet_54 : decode cX5_bestSet 54 = .ok (.iload_n 2, 1) := by decide +kernel
theorem dX5_bestSet_55 : decode cX5_bestSet 55 = .ok (.if_icmp .le 47, 3) := by decide +kernel
theorem dX5_bestSet_58 : decode cX5_bestSet 58 = .ok (.iload 4, 2) := by decide +kernel
theorem dX5_bestSet_60 : decode cX5_bestSet 60 = .ok (.invokestatic 130, 3) := by decide +kernel
theorem dX5_bestSet_63 : decode cX5_bestSet 63 = .ok (.aload_n 0, 1) := by decide +kernel
theorem dX5_bestSet_64 : decode cX5_bestSet 64 = .ok (.getfield 10, 3) := by decide +kernel
theorem dX5_bestSet_67 : decode cX5_bestSet 67 = .ok (.getfield 83, 3) := by decide +kernel
theorem dX5_bestSet_70 : decode cX5_bestSet 70 = .ok (.iconst 3, 1) := by decide +kernel
theorem dX5_bestSet_71 : decode cX5_bestSet 71 = .ok (.iaload, 1) := by decide +kernel
theorem dX5_bestSet_72 : decode cX5_bestSet 72 = .ok (.if_icmp .gt 30, 3) := by decide +kernel
theorem dX5_bestSet_75 : decode cX5_bestSet 75 = .ok (.aload_n 0, 1) := by decide +kernel
theorem dX5_bestSet_76 : decode cX5_bestSet 76 = .ok (.getfield 42, 3) := by decide +kernel
theorem dX5_bestSet_79 : decode cX5_bestSet 79 = .ok (.iload 4, 2) := by decide +kernel
theorem dX5_bestSet_81 : decode cX5_bestSet 81 = .ok (.invokevirtual 177, 3) := by decide +kernel
theorem dX5_bestSet_84 : decode cX5_bestSet 84 = .ok (.aload_n 0, 1) := by decide +kernel
theorem dX5_bestSet_85 : decode cX5_bestSet 85 = .ok (.getfield 10, 3) := by decide +kernel
theorem dX5_bestSet_88 : decode cX5_bestSet 88 = .ok (.getfield 275, 3) := by decide +kernel
theorem dX5_bestSet_91 : decode cX5_bestSet 91 = .ok (.iload_n 1, 1) := by decide +kernel
theorem dX5_bestSet_92 : decode cX5_bestSet 92 = .ok (.iaload, 1) := by decide +kernel
theorem dX5_bestSet_93 : decode cX5_bestSet 93 = .ok (.if_icmp .gt 9, 3) := by decide +kernel
theorem dX5_bestSet_96 : decode cX5_bestSet 96 = .ok (.iload 5, 2) := by decide +kernel
theorem dX5_bestSet_98 : decode cX5_bestSet 98 = .ok (.istore_n 2, 1) := by decide +kernel
theorem dX5_bestSet_99 : decode cX5_bestSet 99 = .ok (.iload 4, 2) := by decide +kernel
theorem dX5_bestSet_101 : decode cX5_bestSet 101 = .ok (.istore_n 3, 1) := by decide +kernel
theorem dX5_bestSet_102 : decode cX5_bestSet 102 = .ok (.iinc 4 1, 3) := by decide +kernel
theorem dX5_bestSet_105 : decode cX5_bestSet 105 = .ok (.goto (-78), 3) := by decide +kernel
theorem dX5_bestSet_108 : decode cX5_bestSet 108 = .ok (.iload_n 3, 1) := by decide +kernel
theorem dX5_bestSet_109 : decode cX5_bestSet 109 = .ok (.ireturn, 1) := by decide +kernel
theorem dX5_canShare_0 : decode cX5_canShare 0 = .ok (.iload_n 1, 1) := by decide +kernel
theorem dX5_canShare_1 : decode cX5_canShare 1 = .ok (.iconst 4, 1) := by decide +kernel
theorem dX5_canShare_2 : decode cX5_canShare 2 = .ok (.invokestatic 57, 3) := by decide +kernel
theorem dX5_canShare_5 : decode cX5_canShare 5 = .ok (.ifCond .eq 28, 3) := by decide +kernel
theorem dX5_canShare_8 : decode cX5_canShare 8 = .ok (.iload_n 2, 1) := by decide +kernel
theorem dX5_canShare_9 : decode cX5_canShare 9 = .ok (.iconst 4, 1) := by decide +kernel
theorem dX5_canShare_10 : decode cX5_canShare 10 = .ok (.invokestatic 57, 3) := by decide +kernel
theorem dX5_canShare_13 : decode cX5_canShare 13 = .ok (.ifCond .eq 20, 3) := by decide +kernel
theorem dX5_canShare_16 : decode cX5_canShare 16 = .ok (.iload_n 1, 1) := by decide +kernel
theorem dX5_canShare_17 : decode cX5_canShare 17 = .ok (.iload_n 2, 1) := by decide +kernel
theorem dX5_canShare_18 : decode cX5_canShare 18 = .ok (.if_icmp .eq 15, 3) := by decide +kernel
theorem dX5_canShare_21 : decode cX5_canShare 21 = .ok (.aload_n 0, 1) := by decide +kernel
theorem dX5_canShare_22 : decode cX5_canShare 22 = .ok (.iload_n 3, 1) := by decide +kernel
theorem dX5_canShare_23 : decode cX5_canShare 23 = .ok (.invokevirtual 169, 3) := by decide +kernel
theorem dX5_canShare_26 : decode cX5_canShare 26 = .ok (.ifCond .eq 7, 3) := by decide +kernel
theorem dX5_canShare_29 : decode cX5_canShare 29 = .ok (.iconst 1, 1) := by decide +kernel
theorem dX5_canShare_30 : decode cX5_canShare 30 = .ok (.goto 4, 3) := by decide +kernel
theorem dX5_canShare_33 : decode cX5_canShare 33 = .ok (.iconst 0, 1) := by decide +kernel
theorem dX5_canShare_34 : decode cX5_canShare 34 = .ok (.ireturn, 1) := by decide +kernel
theorem dX5_firstShare_0 : decode cX5_firstShare 0 = .ok (.aload_n 0, 1) := by decide +kernel
theorem dX5_firstShare_1 : decode cX5_firstShare 1 = .ok (.getfield 42, 3) := by decide +kernel
theorem dX5_firstShare_4 : decode cX5_firstShare 4 = .ok (.aload_n 0, 1) := by decide +kernel
theorem dX5_firstShare_5 : decode cX5_firstShare 5 = .ok (.getfield 10, 3) := by decide +kernel
theorem dX5_firstShare_8 : decode cX5_firstShare 8 = .ok (.aload_n 0, 1) := by decide +kernel
theorem dX5_firstShare_9 : decode cX5_firstShare 9 = .ok (.getfield 10, 3) := by decide +kernel
theorem dX5_firstShare_12 : decode cX5_firstShare 12 = .ok (.getfield 142, 3) := by decide +kernel
theorem dX5_firstShare_15 : decode cX5_firstShare 15 = .ok (.iload_n 1, 1) := by decide +kernel
theorem dX5_firstShare_16 : decode cX5_firstShare 16 = .ok (.iaload, 1) := by decide +kernel
theorem dX5_firstShare_17 : decode cX5_firstShare 17 = .ok (.invokevirtual 173, 3) := by decide +kernel
theorem dX5_firstShare_20 : decode cX5_firstShare 20 = .ok (.aload_n 0, 1) := by decide +kernel
theorem dX5_firstShare_21 : decode cX5_firstShare 21 = .ok (.getfield 46, 3) := by decide +kernel
theorem dX5_firstShare_24 : decode cX5_firstShare 24 = .ok (.aload_n 0, 1) := by decide +kernel
theorem dX5_firstShare_25 : decode cX5_firstShare 25 = .ok (.getfield 10, 3) := by decide +kernel
theorem dX5_firstShare_28 : decode cX5_firstShare 28 = .ok (.aload_n 0, 1) := by decide +kernel
theorem dX5_firstShare_29 : decode cX5_firstShare 29 = .ok (.getfield 10, 3) := by decide +kernel
theorem dX5_firstShare_32 : decode cX5_firstShare 32 = .ok (.getfield 142, 3) := by decide +kernel
theorem dX5_firstShare_35 : decode cX5_firstShare 35 = .ok (.iload_n 2, 1) := by decide +kernel
theorem dX5_firstShare_36 : decode cX5_firstShare 36 = .ok (.iaload, 1) := by decide +kernel
theorem dX5_firstShare_37 : decode cX5_firstShare 37 = .ok (.invokevirtual 173, 3) := by decide +kernel
theorem dX5_firstShare_40 : decode cX5_firstShare 40 = .ok (.ldc 183, 2) := by decide +kernel
theorem dX5_firstShare_42 : decode cX5_firstShare 42 = .ok (.istore 4, 2) := by decide +kernel
theorem dX5_firstShare_44 : decode cX5_firstShare 44 = .ok (.iconst 0, 1) := by decide +kernel
theorem dX5_firstShare_45 : decode cX5_firstShare 45 = .ok (.istore 5, 2) := by decide +kernel
theorem dX5_firstShare_47 : decode cX5_firstShare 47 = .ok (.iconst 0, 1) := by decide +kernel
theorem dX5_firstShare_48 : decode cX5_firstShare 48 = .ok (.istore 6, 2) := by decide +kernel
theorem dX5_firstShare_50 : decode cX5_firstShare 50 = .ok (.iload 6, 2) := by decide +kernel
theorem dX5_firstShare_52 : decode cX5_firstShare 52 = .ok (.iload_n 3, 1) := by decide +kernel
theorem dX5_firstShare_53 : decode cX5_firstShare 53 = .ok (.if_icmp .gt 42, 3) := by decide +kernel
theorem dX5_firstShare_56 : decode cX5_firstShare 56 = .ok (.iload 6, 2) := by decide +kernel
theorem dX5_firstShare_58 : decode cX5_firstShare 58 = .ok (.iload_n 3, 1) := by decide +kernel
theorem dX5_firstShare_59 : decode cX5_firstShare 59 = .ok (.iconst (-1), 1) := by decide +kernel
theorem dX5_firstShare_60 : decode cX5_firstShare 60 = .ok (.ixor, 1) := by decide +kernel
theorem dX5_firstShare_61 : decode cX5_firstShare 61 = .ok (.iand, 1) := by decide +kernel
theorem dX5_firstShare_62 : decode cX5_firstShare 62 = .ok (.ifCond .ne 27, 3) := by decide +kernel
theorem dX5_firstShare_65 : decode cX5_firstShare 65 = .ok (.aload_n 0, 1) := by decide +kernel
theorem dX5_firstShare_66 : decode cX5_firstShare 66 = .ok (.iload 6, 2) := by decide +kernel
theorem dX5_firstShare_68 : decode cX5_firstShare 68 = .ok (.iload_n 3, 1) := by decide +kernel
theorem dX5_firstShare_69 : decode cX5_firstShare 69 = .ok (.invokevirtual 191, 3) := by decide +kernel
theorem dX5_firstShare_72 : decode cX5_firstShare 72 = .ok (.istore 7, 2) := by decide +kernel
theorem dX5_firstShare_74 : decode cX5_firstShare 74 = .ok (.iload 7, 2) := by decide +kernel
theorem dX5_firstShare_76 : decode cX5_firstShare 76 = .ok (.iload 4, 2) := by decide +kernel
theorem dX5_firstShare_78 : decode cX5_firstShare 78 = .ok (.if_icmp .ge 11, 3) := by decide +kernel
theorem dX5_firstShare_81 : decode cX5_firstShare 81 = .ok (.iload 7, 2) := by decide +kernel
theorem dX5_firstShare_83 : decode cX5_firstShare 83 = .ok (.istore 4, 2) := by decide +kernel
theorem dX5_firstShare_85 : decode cX5_firstShare 85 = .ok (.iload 6, 2) := by decide +kernel
theorem dX5_firstShare_87 : decode cX5_firstShare 87 = .ok (.istore 5, 2) := by decide +kernel
theorem dX5_firstShare_89 : decode cX5_firstShare 89 = .ok (.iinc 6 1, 3) := by decide +kernel
theorem dX5_firstShare_92 : decode cX5_firstShare 92 = .ok (.goto (-42), 3) := by decide +kernel
theorem dX5_firstShare_95 : decode cX5_firstShare 95 = .ok (.iload 5, 2) := by decide +kernel
theorem dX5_firstShare_97 : decode cX5_firstShare 97 = .ok (.ireturn, 1) := by decide +kernel
theorem dX5_longerWay_0 : decode cX5_longerWay 0 = .ok (.aload_n 0, 1) := by decide +kernel
theorem dX5_longerWay_1 : decode cX5_longerWay 1 = .ok (.getfield 42, 3) := by decide +kernel
theorem dX5_longerWay_4 : decode cX5_longerWay 4 = .ok (.iload_n 1, 1) := by decide +kernel
theorem dX5_longerWay_5 : decode cX5_longerWay 5 = .ok (.invokevirtual 177, 3) := by decide +kernel
theorem dX5_longerWay_8 : decode cX5_longerWay 8 = .ok (.aload_n 0, 1) := by decide +kernel
theorem dX5_longerWay_9 : decode cX5_longerWay 9 = .ok (.getfield 46, 3) := by decide +kernel
theorem dX5_longerWay_12 : decode cX5_longerWay 12 = .ok (.iload_n 2, 1) := by decide +kernel
theorem dX5_longerWay_13 : decode cX5_longerWay 13 = .ok (.iload_n 1, 1) := by decide +kernel
theorem dX5_longerWay_14 : decode cX5_longerWay 14 = .ok (.iconst (-1), 1) := by decide +kernel
theorem dX5_longerWay_15 : decode cX5_longerWay 15 = .ok (.ixor, 1) := by decide +kernel
theorem dX5_longerWay_16 : decode cX5_longerWay 16 = .ok (.iand, 1) := by decide +kernel
theorem dX5_longerWay_17 : decode cX5_longerWay 17 = .ok (.invokevirtual 177, 3) := by decide +kernel
theorem dX5_longerWay_20 : decode cX5_longerWay 20 = .ok (.invokestatic 288, 3) := by decide +kernel
theorem dX5_longerWay_23 : decode cX5_longerWay 23 = .ok (.ireturn, 1) := by decide +kernel
theorem dX5_lackOfSheet_0 : decode cX5_lackOfSheet 0 = .ok (.iload_n 1, 1) := by decide +kernel
theorem dX5_lackOfSheet_1 : decode cX5_lackOfSheet 1 = .ok (.iconst 4, 1) := by decide +kernel
theorem dX5_lackOfSheet_2 : decode cX5_lackOfSheet 2 = .ok (.invokestatic 57, 3) := by decide +kernel
theorem dX5_lackOfSheet_5 : decode cX5_lackOfSheet 5 = .ok (.ifCond .ne 9, 3) := by decide +kernel
theorem dX5_lackOfSheet_8 : decode cX5_lackOfSheet 8 = .ok (.aload_n 0, 1) := by decide +kernel
theorem dX5_lackOfSheet_9 : decode cX5_lackOfSheet 9 = .ok (.iconst 0, 1) := by decide +kernel
theorem dX5_lackOfSheet_10 : decode cX5_lackOfSheet 10 = .ok (.invokevirtual 61, 3) := by decide +kernel
theorem dX5_lackOfSheet_13 : decode cX5_lackOfSheet 13 = .ok (.ireturn, 1) := by decide +kernel
theorem dX5_lackOfSheet_14 : decode cX5_lackOfSheet 14 = .ok (.aload_n 0, 1) := by decide +kernel
theorem dX5_lackOfSheet_15 : decode cX5_lackOfSheet 15 = .ok (.getfield 35, 3) := by decide +kernel
theorem dX5_lackOfSheet_18 : decode cX5_lackOfSheet 18 = .ok (.iload_n 1, 1) := by decide +kernel
theorem dX5_lackOfSheet_19 : decode cX5_lackOfSheet 19 = .ok (.aaload, 1) := by decide +kernel
theorem dX5_lackOfSheet_20 : decode cX5_lackOfSheet 20 = .ok (.getfield 260, 3) := by decide +kernel
theorem dX5_lackOfSheet_23 : decode cX5_lackOfSheet 23 = .ok (.ifCond .ne 11, 3) := by decide +kernel
theorem dX5_lackOfSheet_26 : decode cX5_lackOfSheet 26 = .ok (.aload_n 0, 1) := by decide +kernel
theorem dX5_lackOfSheet_27 : decode cX5_lackOfSheet 27 = .ok (.iconst 5, 1) := by decide +kernel
theorem dX5_lackOfSheet_28 : decode cX5_lackOfSheet 28 = .ok (.invokevirtual 61, 3) := by decide +kernel
theorem dX5_lackOfSheet_31 : decode cX5_lackOfSheet 31 = .ok (.goto 4, 3) := by decide +kernel
theorem dX5_lackOfSheet_34 : decode cX5_lackOfSheet 34 = .ok (.iconst 0, 1) := by decide +kernel
theorem dX5_lackOfSheet_35 : decode cX5_lackOfSheet 35 = .ok (.ireturn, 1) := by decide +kernel
theorem dX5_isAsSheet_0 : decode cX5_isAsSheet 0 = .ok (.aload_n 0, 1) := by decide +kernel
theorem dX5_isAsSheet_1 : decode cX5_isAsSheet 1 = .ok (.getfield 10, 3) := by decide +kernel
theorem dX5_isAsSheet_4 : decode cX5_isAsSheet 4 = .ok (.getfield 80, 3) := by decide +kernel
theorem dX5_isAsSheet_7 : decode cX5_isAsSheet 7 = .ok (.iload_n 2, 1) := by decide +kernel
theorem dX5_isAsSheet_8 : decode cX5_isAsSheet 8 = .ok (.iaload, 1) := by decide +kernel
theorem dX5_isAsSheet_9 : decode cX5_isAsSheet 9 = .ok (.istore 4, 2) := by decide +kernel
theorem dX5_isAsSheet_11 : decode cX5_isAsSheet 11 = .ok (.iconst 0, 1) := by decide +kernel
theorem dX5_isAsSheet_12 : decode cX5_isAsSheet 12 = .ok (.istore 5, 2) := by decide +kernel
theorem dX5_isAsSheet_14 : decode cX5_isAsSheet 14 = .ok (.iload 5, 2) := by decide +kernel
theorem dX5_isAsSheet_16 : decode cX5_isAsSheet 16 = .ok (.aload_n 1, 1) := by decide +kernel
theorem dX5_isAsSheet_17 : decode cX5_isAsSheet 17 = .ok (.getfield 256, 3) := by decide +kernel
theorem dX5_isAsSheet_20 : decode cX5_isAsSheet 20 = .ok (.if_icmp .ge 54, 3) := by decide +kernel
theorem dX5_isAsSheet_23 : decode cX5_isAsSheet 23 = .ok (.aload_n 1, 1) := by decide +kernel
theorem dX5_isAsSheet_24 : decode cX5_isAsSheet 24 = .ok (.getfield 266, 3) := by decide +kernel
theorem dX5_isAsSheet_27 : decode cX5_isAsSheet 27 = .ok (.iload 5, 2) := by decide +kernel
theorem dX5_isAsSheet_29 : decode cX5_isAsSheet 29 = .ok (.iaload, 1) := by decide +kernel
theorem dX5_isAsSheet_30 : decode cX5_isAsSheet 30 = .ok (.istore 6, 2) := by decide +kernel
theorem dX5_isAsSheet_32 : decode cX5_isAsSheet 32 = .ok (.iload 6, 2) := by decide +kernel
theorem dX5_isAsSheet_34 : decode cX5_isAsSheet 34 = .ok (.iconst (-1), 1) := by decide +kernel
theorem dX5_isAsSheet_35 : decode cX5_isAsSheet 35 = .ok (.if_icmp .eq 12, 3) := by decide +kernel
theorem dX5_isAsSheet_38 : decode cX5_isAsSheet 38 = .ok (.iload 6, 2) := by decide +kernel
theorem dX5_isAsSheet_40 : decode cX5_isAsSheet 40 = .ok (.iload 4, 2) := by decide +kernel
theorem dX5_isAsSheet_42 : decode cX5_isAsSheet 42 = .ok (.if_icmp .eq 5, 3) := by decide +kernel
theorem dX5_isAsSheet_45 : decode cX5_isAsSheet 45 = .ok (.iconst 0, 1) := by decide +kernel
theorem dX5_isAsSheet_46 : decode cX5_isAsSheet 46 = .ok (.ireturn, 1) := by decide +kernel
theorem dX5_isAsSheet_47 : decode cX5_isAsSheet 47 = .ok (.aload_n 0, 1) := by decide +kernel
theorem dX5_isAsSheet_48 : decode cX5_isAsSheet 48 = .ok (.getfield 10, 3) := by decide +kernel
theorem dX5_isAsSheet_51 : decode cX5_isAsSheet 51 = .ok (.iload_n 3, 1) := by decide +kernel
theorem dX5_isAsSheet_52 : decode cX5_isAsSheet 52 = .ok (.iload 4, 2) := by decide +kernel
theorem dX5_isAsSheet_54 : decode cX5_isAsSheet 54 = .ok (.aload_n 0, 1) := by decide +kernel
theorem dX5_isAsSheet_55 : decode cX5_isAsSheet 55 = .ok (.getfield 10, 3) := by decide +kernel
theorem dX5_isAsSheet_58 : decode cX5_isAsSheet 58 = .ok (.getfield 83, 3) := by decide +kernel
theorem dX5_isAsSheet_61 : decode cX5_isAsSheet 61 = .ok (.iconst 0, 1) := by decide +kernel
theorem dX5_isAsSheet_62 : decode cX5_isAsSheet 62 = .ok (.iaload, 1) := by decide +kernel
theorem dX5_isAsSheet_63 : decode cX5_isAsSheet 63 = .ok (.invokevirtual 291, 3) := by decide +kernel
theorem dX5_isAsSheet_66 : decode cX5_isAsSheet 66 = .ok (.istore 4, 2) := by decide +kernel
theorem dX5_isAsSheet_68 : decode cX5_isAsSheet 68 = .ok (.iinc 5 1, 3) := by decide +kernel
theorem dX5_isAsSheet_71 : decode cX5_isAsSheet 71 = .ok (.goto (-57), 3) := by decide +kernel
theorem dX5_isAsSheet_74 : decode cX5_isAsSheet 74 = .ok (.iconst 1, 1) := by decide +kernel
theorem dX5_isAsSheet_75 : decode cX5_isAsSheet 75 = .ok (.ireturn, 1) := by decide +kernel
theorem dX6_init_0 : decode cX6_init 0 = .ok (.aload_n 0, 1) := by decide +kernel
theorem dX6_init_1 : decode cX6_init 1 = .ok (.invokespecial 1, 3) := by decide +kernel
theorem dX6_init_4 : decode cX6_init 4 = .ok (.aload_n 0, 1) := by decide +kernel
theorem dX6_init_5 : decode cX6_init 5 = .ok (.bipush 72, 2) := by decide +kernel
theorem dX6_init_7 : decode cX6_init 7 = .ok (.newarray .int, 2) := by decide +kernel
theorem dX6_init_9 : decode cX6_init 9 = .ok (.putfield 9, 3) := by decide +kernel
theorem dX6_init_12 : decode cX6_init 12 = .ok (.aload_n 0, 1) := by decide +kernel
theorem dX6_init_13 : decode cX6_init 13 = .ok (.bipush 72, 2) := by decide +kernel
theorem dX6_init_15 : decode cX6_init 15 = .ok (.newarray .int, 2) := by decide +kernel
theorem dX6_init_17 : decode cX6_init 17 = .ok (.putfield 13, 3) := by decide +kernel
theorem dX6_init_20 : decode cX6_init 20 = .ok (.aload_n 0, 1) := by decide +kernel
theorem dX6_init_21 : decode cX6_init 21 = .ok (.bipush 72, 2) := by decide +kernel
theorem dX6_init_23 : decode cX6_init 23 = .ok (.newarray .int, 2) := by decide +kernel
theorem dX6_init_25 : decode cX6_init 25 = .ok (.putfield 16, 3) := by decide +kernel
theorem dX6_init_28 : decode cX6_init 28 = .ok (.aload_n 0, 1) := by decide +kernel
theorem dX6_init_29 : decode cX6_init 29 = .ok (.bipush 7, 2) := by decide +kernel
theorem dX6_init_31 : decode cX6_init 31 = .ok (.newarray .int, 2) := by decide +kernel
theorem dX6_init_33 : decode cX6_init 33 = .ok (.putfield 19, 3) := by decide +kernel
theorem dX6_init_36 : decode cX6_init 36 = .ok (.aload_n 0, 1) := by decide +kernel
theorem dX6_init_37 : decode cX6_init 37 = .ok (.bipush 11, 2) := by decide +kernel
theorem dX6_init_39 : decode cX6_init 39 = .ok (.newarray .int, 2) := by decide +kernel
theorem dX6_init_41 : decode cX6_init 41 = .ok (.putfield 22, 3) := by decide +kernel
theorem dX6_init_44 : decode cX6_init 44 = .ok (.aload_n 0, 1) := by decide +kernel
theorem dX6_init_45 : decode cX6_init 45 = .ok (.bipush 120, 2) := by decide +kernel
theorem dX6_init_47 : decode cX6_init 47 = .ok (.newarray .int, 2) := by decide +kernel
theorem dX6_init_49 : decode cX6_init 49 = .ok (.putfield 25, 3) := by decide +kernel
theorem dX6_init_52 : decode cX6_init 52 = .ok (.aload_n 0, 1) := by decide +kernel
theorem dX6_init_53 : decode cX6_init 53 = .ok (.bipush 56, 2) := by decide +kernel
theorem dX6_init_55 : decode cX6_init 55 = .ok (.newarray .char, 2) := by decide +kernel
theorem dX6_init_57 : decode cX6_init 57 = .ok (.dup, 1) := by decide +kernel
theorem dX6_init_58 : decode cX6_init 58 = .ok (.iconst 0, 1) := by decide +kernel
theorem dX6_init_59 : decode cX6_init 59 = .ok (.bipush 108, 2) := by decide +kernel
theorem dX6_init_61 : decode cX6_init 61 = .ok (.castore, 1) := by decide +kernel
theorem dX6_init_62 : decode cX6_init 62 = .ok (.dup, 1) := by decide +kernel
theorem dX6_init_63 : decode cX6_init 63 = .ok (.iconst 1, 1) := by decide +kernel
theorem dX6_init_64 : decode cX6_init 64 = .ok (.bipush 97, 2) := by decide +kernel
theorem dX6_init_66 : decode cX6_init 66 = .ok (.castore, 1) := by decide +kernel
theorem dX6_init_67 : decode cX6_init 67 = .ok (.dup, 1) := by decide +kernel
theorem dX6_init_68 : decode cX6_init 68 = .ok (.iconst 2, 1) := by decide +kernel
theorem dX6_init_69 : decode cX6_init 69 = .ok (.bipush 109, 2) := by decide +kernel
theorem dX6_init_71 : decode cX6_init 71 = .ok (.castore, 1) := by decide +kernel
theorem dX6_init_72 : decode cX6_init 72 = .ok (.dup, 1) := by decide +kernel
theorem dX6_init_73 : decode cX6_init 73 = .ok (.iconst 3, 1) := by decide +kernel
theorem dX6_init_74 : decode cX6_init 74 = .ok (.bipush 112, 2) := by decide +kernel
theorem dX6_init_76 : decode cX6_init 76 = .ok (.castore, 1) := by decide +kernel
theorem dX6_init_77 : decode cX6_init 77 = .ok (.dup, 1) := by decide +kernel
theorem dX6_init_78 : decode cX6_init 78 = .ok (.iconst 4, 1) := by decide +kernel
theorem dX6_init_79 : decode cX6_init 79 = .ok (.bipush 32, 2) := by decide +kernel
theorem dX6_init_81 : decode cX6_init 81 = .ok (.castore, 1) := by decide +kernel
theorem dX6_init_82 : decode cX6_init 82 = .ok (.dup, 1) := by decide +kernel
theorem dX6_init_83 : decode cX6_init 83 = .ok (.iconst 5, 1) := by decide +kernel
theorem dX6_init_84 : decode cX6_init 84 = .ok (.bipush 32, 2) := by decide +kernel
theorem dX6_init_86 : decode cX6_init 86 = .ok (.castore, 1) := by decide +kernel
theorem dX6_init_87 : decode cX6_init 87 = .ok (.dup, 1) := by decide +kernel
theorem dX6_init_88 : decode cX6_init 88 = .ok (.bipush 6, 2) := by decide +kernel
theorem dX6_init_90 : decode cX6_init 90 = .ok (.bipush 32, 2) := by decide +kernel
theorem dX6_init_92 : decode cX6_init 92 = .ok (.castore, 1) := by decide +kernel
theorem dX6_init_93 : decode cX6_init 93 = .ok (.dup, 1) := by decide +kernel
theorem dX6_init_94 : decode cX6_init 94 = .ok (.bipush 7, 2) := by decide +kernel
theorem dX6_init_96 : decode cX6_init 96 = .ok (.bipush 32, 2) := by decide +kernel
theorem dX6_init_98 : decode cX6_init 98 = .ok (.castore, 1) := by decide +kernel
theorem dX6_init_99 : decode cX6_init 99 = .ok (.dup, 1) := by decide +kernel
theorem dX6_init_100 : decode cX6_init 100 = .ok (.bipush 8, 2) := by decide +kernel
theorem dX6_init_102 : decode cX6_init 102 = .ok (.bipush 114, 2) := by decide +kernel
theorem dX6_init_104 : decode cX6_init 104 = .ok (.castore, 1) := by decide +kernel
theorem dX6_init_105 : decode cX6_init 105 = .ok (.dup, 1) := by decide +kernel
theorem dX6_init_106 : decode cX6_init 106 = .ok (.bipush 9, 2) := by decide +kernel
theorem dX6_init_108 : decode cX6_init 108 = .ok (.bipush 101, 2) := by decide +kernel
theorem dX6_init_110 : decode cX6_init 110 = .ok (.castore, 1) := by decide +kernel
theorem dX6_init_111 : decode cX6_init 111 = .ok (.dup, 1) := by decide +kernel
theorem dX6_init_112 : decode cX6_init 112 = .ok (.bipush 10, 2) := by decide +kernel
theorem dX6_init_114 : decode cX6_init 114 = .ok (.bipush 100, 2) := by decide +kernel
theorem dX6_init_116 : decode cX6_init 116 = .ok (.castore, 1) := by decide +kernel
theorem dX6_init_117 : decode cX6_init 117 = .ok (.dup, 1) := by decide +kernel
theorem dX6_init_118 : decode cX6_init 118 = .ok (.bipush 11, 2) := by decide +kernel
theorem dX6_init_120 : decode cX6_init 120 = .ok (.bipush 32, 2) := by decide +kernel
theorem dX6_init_122 : decode cX6_init 122 = .ok (.castore, 1) := by decide +kernel
theorem dX6_init_123 : decode cX6_init 123 = .ok (.dup, 1) := by decide +kernel
theorem dX6_init_124 : decode cX6_init 124 = .ok (.bipush 12, 2) := by decide +kernel
theorem dX6_init_126 : decode cX6_init 126 = .ok (.bipush 32, 2) := by decide +kernel
theorem dX6_init_128 : decode cX6_init 128 = .ok (.castore, 1) := by decide +kernel
theorem dX6_init_129 : decode cX6_init 129 = .ok (.dup, 1) := by decide +kernel
theorem dX6_init_130 : decode cX6_init 130 = .ok (.bipush 13, 2) := by decide +kernel
theorem dX6_init_132 : decode cX6_init 132 = .ok (.bipush 32, 2) := by decide +kernel
theorem dX6_init_134 : decode cX6_init 134 = .ok (.castore, 1) := by decide +kernel
theorem dX6_init_135 : decode cX6_init 135 = .ok (.dup, 1) := by decide +kernel
theorem dX6_init_136 : decode cX6_init 136 = .ok (.bipush 14, 2) := by decide +kernel
theorem dX6_init_138 : decode cX6_init 138 = .ok (.bipush 32, 2) := by decide +kernel
theorem dX6_init_140 : decode cX6_init 140 = .ok (.castore, 1) := by decide +kernel
theorem dX6_init_141 : decode cX6_init 141 = .ok (.dup, 1) := by decide +kernel
theorem dX6_init_142 : decode cX6_init 142 = .ok (.bipush 15, 2) := by decide +kernel
theorem dX6_init_144 : decode cX6_init 144 = .ok (.bipush 32, 2) := by decide +kernel
theorem dX6_init_146 : decode cX6_init 146 = .ok (.castore, 1) := by decide +kernel
theorem dX6_init_147 : decode cX6_init 147 = .ok (.dup, 1) := by decide +kernel
theorem dX6_init_148 : decode cX6_init 148 = .ok (.bipush 16, 2) := by decide +kernel
theorem dX6_init_150 : decode cX6_init 150 = .ok (.bipush 102, 2) := by decide +kernel
theorem dX6_init_152 : decode cX6_init 152 = .ok (.castore, 1) := by decide +kernel
theorem dX6_init_153 : decode cX6_init 153 = .ok (.dup, 1) := by decide +kernel
theorem dX6_init_154 : decode cX6_init 154 = .ok (.bipush 17, 2) := by decide +kernel
theorem dX6_init_156 : decode cX6_init 156 = .ok (.bipush 105, 2) := by decide +kernel
theorem dX6_init_158 : decode cX6_init 158 = .ok (.castore, 1) := by decide +kernel
theorem dX6_init_159 : decode cX6_init 159 = .ok (.dup, 1) := by decide +kernel
theorem dX6_init_160 : decode cX6_init 160 = .ok (.bipush 18, 2) := by decide +kernel
theorem dX6_init_162 : decode cX6_init 162 = .ok (.bipush 120, 2) := by decide +kernel
theorem dX6_init_164 : decode cX6_init 164 = .ok (.castore, 1) := by decide +kernel
theorem dX6_init_165 : decode cX6_init 165 = .ok (.dup, 1) := by decide +kernel
theorem dX6_init_166 : decode cX6_init 166 = .ok (.bipush 19, 2) := by decide +kernel
theorem dX6_init_168 : decode cX6_init 168 = .ok (.bipush 101, 2) := by decide +kernel
theorem dX6_init_170 : decode cX6_init 170 = .ok (.castore, 1) := by decide +kernel
theorem dX6_init_171 : decode cX6_init 171 = .ok (.dup, 1) := by decide +kernel
theorem dX6_init_172 : decode cX6_init 172 = .ok (.bipush 20, 2) := by decide +kernel
theorem dX6_init_174 : decode cX6_init 174 = .ok (.bipush 100, 2) := by decide +kernel
theorem dX6_init_176 : decode cX6_init 176 = .ok (.castore, 1) := by decide +kernel
theorem dX6_init_177 : decode cX6_init 177 = .ok (.dup, 1) := by decide +kernel
theorem dX6_init_178 : decode cX6_init 178 = .ok (.bipush 21, 2) := by decide +kernel
theorem dX6_init_180 : decode cX6_init 180 = .ok (.bipush 32, 2) := by decide +kernel
theorem dX6_init_182 : decode cX6_init 182 = .ok (.castore, 1) := by decide +kernel
theorem dX6_init_183 : decode cX6_init 183 = .ok (.dup, 1) := by decide +kernel
theorem dX6_init_184 : decode cX6_init 184 = .ok (.bipush 22, 2) := by decide +kernel
theorem dX6_init_186 : decode cX6_init 186 = .ok (.bipush 32, 2) := by decide +kernel
theorem dX6_init_188 : decode cX6_init 188 = .ok (.castore, 1) := by decide +kernel
theorem dX6_init_189 : decode cX6_init 189 = .ok (.dup, 1) := by decide +kernel
theorem dX6_init_190 : decode cX6_init 190 = .ok (.bipush 23, 2) := by decide +kernel
theorem dX6_init_192 : decode cX6_init 192 = .ok (.bipush 32, 2) := by decide +kernel
theorem dX6_init_194 : decode cX6_init 194 = .ok (.castore, 1) := by decide +kernel
theorem dX6_init_195 : decode cX6_init 195 = .ok (.dup, 1) := by decide +kernel
theorem dX6_init_196 : decode cX6_init 196 = .ok (.bipush 24, 2) := by decide +kernel
theorem dX6_init_198 : decode cX6_init 198 = .ok (.bipush 112, 2) := by decide +kernel
theorem dX6_init_200 : decode cX6_init 200 = .ok (.castore, 1) := by decide +kernel
theorem dX6_init_201 : decode cX6_init 201 = .ok (.dup, 1) := by decide +kernel
theorem dX6_init_202 : decode cX6_init 202 = .ok (.bipush 25, 2) := by decide +kernel
theorem dX6_init_204 : decode cX6_init 204 = .ok (.bipush 111, 2) := by decide +kernel
theorem dX6_init_206 : decode cX6_init 206 = .ok (.castore, 1) := by decide +kernel
theorem dX6_init_207 : decode cX6_init 207 = .ok (.dup, 1) := by decide +kernel
theorem dX6_init_208 : decode cX6_init 208 = .ok (.bipush 26, 2) := by decide +kernel
theorem dX6_init_210 : decode cX6_init 210 = .ok (.bipush 108, 2) := by decide +kernel
theorem dX6_init_212 : decode cX6_init 212 = .ok (.castore, 1) := by decide +kernel
theorem dX6_init_213 : decode cX6_init 213 = .ok (.dup, 1) := by decide +kernel
theorem dX6_init_214 : decode cX6_init 214 = .ok (.bipush 27, 2) := by decide +kernel
theorem dX6_init_216 : decode cX6_init 216 = .ok (.bipush 101, 2) := by decide +kernel
theorem dX6_init_218 : decode cX6_init 218 = .ok (.castore, 1) := by decide +kernel
theorem dX6_init_219 : decode cX6_init 219 = .ok (.dup, 1) := by decide +kernel
theorem dX6_init_220 : decode cX6_init 220 = .ok (.bipush 28, 2) := by decide +kernel
theorem dX6_init_222 : decode cX6_init 222 = .ok (.bipush 32, 2) := by decide +kernel
theorem dX6_init_224 : decode cX6_init 224 = .ok (.castore, 1) := by decide +kernel
theorem dX6_init_225 : decode cX6_init 225 = .ok (.dup, 1) := by decide +kernel
theorem dX6_init_226 : decode cX6_init 226 = .ok (.bipush 29, 2) := by decide +kernel
theorem dX6_init_228 : decode cX6_init 228 = .ok (.bipush 32, 2) := by decide +kernel
theorem dX6_init_230 : decode cX6_init 230 = .ok (.castore, 1) := by decide +kernel
theorem dX6_init_231 : decode cX6_init 231 = .ok (.dup, 1) := by decide +kernel
theorem dX6_init_232 : decode cX6_init 232 = .ok (.bipush 30, 2) := by decide +kernel
theorem dX6_init_234 : decode cX6_init 234 = .ok (.bipush 32, 2) := by decide +kernel
theorem dX6_init_236 : decode cX6_init 236 = .ok (.castore, 1) := by decide +kernel
theorem dX6_init_237 : decode cX6_init 237 = .ok (.dup, 1) := by decide +kernel
theorem dX6_init_238 : decode cX6_init 238 = .ok (.bipush 31, 2) := by decide +kernel
theorem dX6_init_240 : decode cX6_init 240 = .ok (.bipush 32, 2) := by decide +kernel
theorem dX6_init_242 : decode cX6_init 242 = .ok (.castore, 1) := by decide +kernel
theorem dX6_init_243 : decode cX6_init 243 = .ok (.dup, 1) := by decide +kernel
theorem dX6_init_244 : decode cX6_init 244 = .ok (.bipush 32, 2) := by decide +kernel
theorem dX6_init_246 : decode cX6_init 246 = .ok (.bipush 103, 2) := by decide +kernel
theorem dX6_init_248 : decode cX6_init 248 = .ok (.castore, 1) := by decide +kernel
theorem dX6_init_249 : decode cX6_init 249 = .ok (.dup, 1) := by decide +kernel
theorem dX6_init_250 : decode cX6_init 250 = .ok (.bipush 33, 2) := by decide +kernel
theorem dX6_init_252 : decode cX6_init 252 = .ok (.bipush 117, 2) := by decide +kernel
theorem dX6_init_254 : decode cX6_init 254 = .ok (.castore, 1) := by decide +kernel
theorem dX6_init_255 : decode cX6_init 255 = .ok (.dup, 1) := by decide +kernel
theorem dX6_init_256 : decode cX6_init 256 = .ok (.bipush 34, 2) := by decide +kernel
theorem dX6_init_258 : decode cX6_init 258 = .ok (.bipush 105, 2) := by decide +kernel
theorem dX6_init_260 : decode cX6_init 260 = .ok (.castore, 1) := by decide +kernel
theorem dX6_init_261 : decode cX6_init 261 = .ok (.dup, 1) := by decide +kernel
theorem dX6_init_262 : decode cX6_init 262 = .ok (.bipush 35, 2) := by decide +kernel
theorem dX6_init_264 : decode cX6_init 264 = .ok (.bipush 100, 2) := by decide +kernel
theorem dX6_init_266 : decode cX6_init 266 = .ok (.castore, 1) := by decide +kernel
theorem dX6_init_267 : decode cX6_init 267 = .ok (.dup, 1) := by decide +kernel
theorem dX6_init_268 : decode cX6_init 268 = .ok (.bipush 36, 2) := by decide +kernel
theorem dX6_init_270 : decode cX6_init 270 = .ok (.bipush 101, 2) := by decide +kernel
theorem dX6_init_272 : decode cX6_init 272 = .ok (.castore, 1) := by decide +kernel
theorem dX6_init_273 : decode cX6_init 273 = .ok (.dup, 1) := by decide +kernel
theorem dX6_init_274 : decode cX6_init 274 = .ok (.bipush 37, 2) := by decide +kernel
theorem dX6_init_276 : decode cX6_init 276 = .ok (.bipush 32, 2) := by decide +kernel
theorem dX6_init_278 : decode cX6_init 278 = .ok (.castore, 1) := by decide +kernel
theorem dX6_init_279 : decode cX6_init 279 = .ok (.dup, 1) := by decide +kernel
theorem dX6_init_280 : decode cX6_init 280 = .ok (.bipush 38, 2) := by decide +kernel
theorem dX6_init_282 : decode cX6_init 282 = .ok (.bipush 32, 2) := by decide +kernel
theorem dX6_init_284 : decode cX6_init 284 = .ok (.castore, 1) := by decide +kernel
theorem dX6_init_285 : decode cX6_init 285 = .ok (.dup, 1) := by decide +kernel
theorem dX6_init_286 : decode cX6_init 286 = .ok (.bipush 39, 2) := by decide +kernel
theorem dX6_init_288 : decode cX6_init 288 = .ok (.bipush 32, 2) := by decide +kernel
theorem dX6_init_290 : decode cX6_init 290 = .ok (.castore, 1) := by decide +kernel
theorem dX6_init_291 : decode cX6_init 291 = .ok (.dup, 1) := by decide +kernel
theorem dX6_init_292 : decode cX6_init 292 = .ok (.bipush 40, 2) := by decide +kernel
theorem dX6_init_294 : decode cX6_init 294 = .ok (.bipush 111, 2) := by decide +kernel
theorem dX6_init_296 : decode cX6_init 296 = .ok (.castore, 1) := by decide +kernel
theorem dX6_init_297 : decode cX6_init 297 = .ok (.dup, 1) := by decide +kernel
theorem dX6_init_298 : decode cX6_init 298 = .ok (.bipush 41, 2) := by decide +kernel
theorem dX6_init_300 : decode cX6_init 300 = .ok (.bipush 108, 2) := by decide +kernel
theorem dX6_init_302 : decode cX6_init 302 = .ok (.castore, 1) := by decide +kernel
theorem dX6_init_303 : decode cX6_init 303 = .ok (.dup, 1) := by decide +kernel
theorem dX6_init_304 : decode cX6_init 304 = .ok (.bipush 42, 2) := by decide +kernel
theorem dX6_init_306 : decode cX6_init 306 = .ok (.bipush 100, 2) := by decide +kernel
theorem dX6_init_308 : decode cX6_init 308 = .ok (.castore, 1) := by decide +kernel
theorem dX6_init_309 : decode cX6_init 309 = .ok (.dup, 1) := by decide +kernel
theorem dX6_init_310 : decode cX6_init 310 = .ok (.bipush 43, 2) := by decide +kernel
theorem dX6_init_312 : decode cX6_init 312 = .ok (.bipush 32, 2) := by decide +kernel
theorem dX6_init_314 : decode cX6_init 314 = .ok (.castore, 1) := by decide +kernel
theorem dX6_init_315 : decode cX6_init 315 = .ok (.dup, 1) := by decide +kernel
theorem dX6_init_316 : decode cX6_init 316 = .ok (.bipush 44, 2) := by decide +kernel
theorem dX6_init_318 : decode cX6_init 318 = .ok (.bipush 32, 2) := by decide +kernel
theorem dX6_init_320 : decode cX6_init 320 = .ok (.castore, 1) := by decide +kernel
theorem dX6_init_321 : decode cX6_init 321 = .ok (.dup, 1) := by decide +kernel
theorem dX6_init_322 : decode cX6_init 322 = .ok (.bipush 45, 2) := by decide +kernel
theorem dX6_init_324 : decode cX6_init 324 = .ok (.bipush 32, 2) := by decide +kernel
theorem dX6_init_326 : decode cX6_init 326 = .ok (.castore, 1) := by decide +kernel
theorem dX6_init_327 : decode cX6_init 327 = .ok (.dup, 1) := by decide +kernel
theorem dX6_init_328 : decode cX6_init 328 = .ok (.bipush 46, 2) := by decide +kernel
theorem dX6_init_330 : decode cX6_init 330 = .ok (.bipush 32, 2) := by decide +kernel
theorem dX6_init_332 : decode cX6_init 332 = .ok (.castore, 1) := by decide +kernel
theorem dX6_init_333 : decode cX6_init 333 = .ok (.dup, 1) := by decide +kernel
theorem dX6_init_334 : decode cX6_init 334 = .ok (.bipush 47, 2) := by decide +kernel
theorem dX6_init_336 : decode cX6_init 336 = .ok (.bipush 32, 2) := by decide +kernel
theorem dX6_init_338 : decode cX6_init 338 = .ok (.castore, 1) := by decide +kernel
theorem dX6_init_339 : decode cX6_init 339 = .ok (.dup, 1) := by decide +kernel
theorem dX6_init_340 : decode cX6_init 340 = .ok (.bipush 48, 2) := by decide +kernel
theorem dX6_init_342 : decode cX6_init 342 = .ok (.bipush 103, 2) := by decide +kernel
theorem dX6_init_344 : decode cX6_init 344 = .ok (.castore, 1) := by decide +kernel
theorem dX6_init_345 : decode cX6_init 345 = .ok (.dup, 1) := by decide +kernel
theorem dX6_init_346 : decode cX6_init 346 = .ok (.bipush 49, 2) := by decide +kernel
theorem dX6_init_348 : decode cX6_init 348 = .ok (.bipush 105, 2) := by decide +kernel
theorem dX6_init_350 : decode cX6_init 350 = .ok (.castore, 1) := by decide +kernel
theorem dX6_init_351 : decode cX6_init 351 = .ok (.dup, 1) := by decide +kernel
theorem dX6_init_352 : decode cX6_init 352 = .ok (.bipush 50, 2) := by decide +kernel
theorem dX6_init_354 : decode cX6_init 354 = .ok (.bipush 97, 2) := by decide +kernel
theorem dX6_init_356 : decode cX6_init 356 = .ok (.castore, 1) := by decide +kernel
theorem dX6_init_357 : decode cX6_init 357 = .ok (.dup, 1) := by decide +kernel
theorem dX6_init_358 : decode cX6_init 358 = .ok (.bipush 51, 2) := by decide +kernel
theorem dX6_init_360 : decode cX6_init 360 = .ok (.bipush 110, 2) := by decide +kernel
theorem dX6_init_362 : decode cX6_init 362 = .ok (.castore, 1) := by decide +kernel
theorem dX6_init_363 : decode cX6_init 363 = .ok (.dup, 1) := by decide +kernel
theorem dX6_init_364 : decode cX6_init 364 = .ok (.bipush 52, 2) := by decide +kernel
theorem dX6_init_366 : decode cX6_init 366 = .ok (.bipush 116, 2) := by decide +kernel
theorem dX6_init_368 : decode cX6_init 368 = .ok (.castore, 1) := by decide +kernel
theorem dX6_init_369 : decode cX6_init 369 = .ok (.dup, 1) := by decide +kernel
theorem dX6_init_370 : decode cX6_init 370 = .ok (.bipush 53, 2) := by decide +kernel
theorem dX6_init_372 : decode cX6_init 372 = .ok (.bipush 32, 2) := by decide +kernel
theorem dX6_init_374 : decode cX6_init 374 = .ok (.castore, 1) := by decide +kernel
theorem dX6_init_375 : decode cX6_init 375 = .ok (.dup, 1) := by decide +kernel
theorem dX6_init_376 : decode cX6_init 376 = .ok (.bipush 54, 2) := by decide +kernel
theorem dX6_init_378 : decode cX6_init 378 = .ok (.bipush 32, 2) := by decide +kernel
theorem dX6_init_380 : decode cX6_init 380 = .ok (.castore, 1) := by decide +kernel
theorem dX6_init_381 : decode cX6_init 381 = .ok (.dup, 1) := by decide +kernel
theorem dX6_init_382 : decode cX6_init 382 = .ok (.bipush 55, 2) := by decide +kernel
theorem dX6_init_384 : decode cX6_init 384 = .ok (.bipush 32, 2) := by decide +kernel
theorem dX6_init_386 : decode cX6_init 386 = .ok (.castore, 1) := by decide +kernel
theorem dX6_init_387 : decode cX6_init 387 = .ok (.putfield 28, 3) := by decide +kernel
theorem dX6_init_390 : decode cX6_init 390 = .ok (.aload_n 0, 1) := by decide +kernel
theorem dX6_init_391 : decode cX6_init 391 = .ok (.bipush 24, 2) := by decide +kernel
theorem dX6_init_393 : decode cX6_init 393 = .ok (.newarray .char, 2) := by decide +kernel
theorem dX6_init_395 : decode cX6_init 395 = .ok (.dup, 1) := by decide +kernel
theorem dX6_init_396 : decode cX6_init 396 = .ok (.iconst 0, 1) := by decide +kernel
theorem dX6_init_397 : decode cX6_init 397 = .ok (.bipush 97, 2) := by decide +kernel
theorem dX6_init_399 : decode cX6_init 399 = .ok (.castore, 1) := by decide +kernel
theorem dX6_init_400 : decode cX6_init 400 = .ok (.dup, 1) := by decide +kernel
theorem dX6_init_401 : decode cX6_init 401 = .ok (.iconst 1, 1) := by decide +kernel
theorem dX6_init_402 : decode cX6_init 402 = .ok (.bipush 116, 2) := by decide +kernel
theorem dX6_init_404 : decode cX6_init 404 = .ok (.castore, 1) := by decide +kernel
theorem dX6_init_405 : decode cX6_init 405 = .ok (.dup, 1) := by decide +kernel
theorem dX6_init_406 : decode cX6_init 406 = .ok (.iconst 2, 1) := by decide +kernel
theorem dX6_init_407 : decode cX6_init 407 = .ok (.bipush 32, 2) := by decide +kernel
theorem dX6_init_409 : decode cX6_init 409 = .ok (.castore, 1) := by decide +kernel
theorem dX6_init_410 : decode cX6_init 410 = .ok (.dup, 1) := by decide +kernel
theorem dX6_init_411 : decode cX6_init 411 = .ok (.iconst 3, 1) := by decide +kernel
theorem dX6_init_412 : decode cX6_init 412 = .ok (.bipush 32, 2) := by decide +kernel
theorem dX6_init_414 : decode cX6_init 414 = .ok (.castore, 1) := by decide +kernel
theorem dX6_init_415 : decode cX6_init 415 = .ok (.dup, 1) := by decide +kernel
theorem dX6_init_416 : decode cX6_init 416 = .ok (.iconst 4, 1) := by decide +kernel
theorem dX6_init_417 : decode cX6_init 417 = .ok (.bipush 32, 2) := by decide +kernel
theorem dX6_init_419 : decode cX6_init 419 = .ok (.castore, 1) := by decide +kernel
theorem dX6_init_420 : decode cX6_init 420 = .ok (.dup, 1) := by decide +kernel
theorem dX6_init_421 : decode cX6_init 421 = .ok (.iconst 5, 1) := by decide +kernel
theorem dX6_init_422 : decode cX6_init 422 = .ok (.bipush 32, 2) := by decide +kernel
theorem dX6_init_424 : decode cX6_init 424 = .ok (.castore, 1) := by decide +kernel
theorem dX6_init_425 : decode cX6_init 425 = .ok (.dup, 1) := by decide +kernel
theorem dX6_init_426 : decode cX6_init 426 = .ok (.bipush 6, 2) := by decide +kernel
theorem dX6_init_428 : decode cX6_init 428 = .ok (.bipush 32, 2) := by decide +kernel
theorem dX6_init_430 : decode cX6_init 430 = .ok (.castore, 1) := by decide +kernel
theorem dX6_init_431 : decode cX6_init 431 = .ok (.dup, 1) := by decide +kernel
theorem dX6_init_432 : decode cX6_init 432 = .ok (.bipush 7, 2) := by decide +kernel
theorem dX6_init_434 : decode cX6_init 434 = .ok (.bipush 32, 2) := by decide +kernel
theorem dX6_init_436 : decode cX6_init 436 = .ok (.castore, 1) := by decide +kernel
theorem dX6_init_437 : decode cX6_init 437 = .ok (.dup, 1) := by decide +kernel
theorem dX6_init_438 : decode cX6_init 438 = .ok (.bipush 8, 2) := by decide +kernel
theorem dX6_init_440 : decode cX6_init 440 = .ok (.bipush 108, 2) := by decide +kernel
theorem dX6_init_442 : decode cX6_init 442 = .ok (.castore, 1) := by decide +kernel
theorem dX6_init_443 : decode cX6_init 443 = .ok (.dup, 1) := by decide +kernel
theorem dX6_init_444 : decode cX6_init 444 = .ok (.bipush 9, 2) := by decide +kernel
theorem dX6_init_446 : decode cX6_init 446 = .ok (.bipush 105, 2) := by decide +kernel
theorem dX6_init_448 : decode cX6_init 448 = .ok (.castore, 1) := by decide +kernel
theorem dX6_init_449 : decode cX6_init 449 = .ok (.dup, 1) := by decide +kernel
theorem dX6_init_450 : decode cX6_init 450 = .ok (.bipush 10, 2) := by decide +kernel
theorem dX6_init_452 : decode cX6_init 452 = .ok (.bipush 102, 2) := by decide +kernel
theorem dX6_init_454 : decode cX6_init 454 = .ok (.castore, 1) := by decide +kernel
theorem dX6_init_455 : decode cX6_init 455 = .ok (.dup, 1) := by decide +kernel
theorem dX6_init_456 : decode cX6_init 456 = .ok (.bipush 11, 2) := by decide +kernel
theorem dX6_init_458 : decode cX6_init 458 = .ok (.bipush 101, 2) := by decide +kernel
theorem dX6_init_460 : decode cX6_init 460 = .ok (.castore, 1) := by decide +kernel
theorem dX6_init_461 : decode cX6_init 461 = .ok (.dup, 1) := by decide +kernel
theorem dX6_init_462 : decode cX6_init 462 = .ok (.bipush 12, 2) := by decide +kernel
theorem dX6_init_464 : decode cX6_init 464 = .ok (.bipush 32, 2) := by decide +kernel
theorem dX6_init_466 : decode cX6_init 466 = .ok (.castore, 1) := by decide +kernel
theorem dX6_init_467 : decode cX6_init 467 = .ok (.dup, 1) := by decide +kernel
theorem dX6_init_468 : decode cX6_init 468 = .ok (.bipush 13, 2) := by decide +kernel
theorem dX6_init_470 : decode cX6_init 470 = .ok (.bipush 32, 2) := by decide +kernel
theorem dX6_init_472 : decode cX6_init 472 = .ok (.castore, 1) := by decide +kernel
theorem dX6_init_473 : decode cX6_init 473 = .ok (.dup, 1) := by decide +kernel
theorem dX6_init_474 : decode cX6_init 474 = .ok (.bipush 14, 2) := by decide +kernel
theorem dX6_init_476 : decode cX6_init 476 = .ok (.bipush 32, 2) := by decide +kernel
theorem dX6_init_478 : decode cX6_init 478 = .ok (.castore, 1) := by decide +kernel
theorem dX6_init_479 : decode cX6_init 479 = .ok (.dup, 1) := by decide +kernel
theorem dX6_init_480 : decode cX6_init 480 = .ok (.bipush 15, 2) := by decide +kernel
theorem dX6_init_482 : decode cX6_init 482 = .ok (.bipush 32, 2) := by decide +kernel
theorem dX6_init_484 : decode cX6_init 484 = .ok (.castore, 1) := by decide +kernel
theorem dX6_init_485 : decode cX6_init 485 = .ok (.dup, 1) := by decide +kernel
theorem dX6_init_486 : decode cX6_init 486 = .ok (.bipush 16, 2) := by decide +kernel
theorem dX6_init_488 : decode cX6_init 488 = .ok (.bipush 119, 2) := by decide +kernel
theorem dX6_init_490 : decode cX6_init 490 = .ok (.castore, 1) := by decide +kernel
theorem dX6_init_491 : decode cX6_init 491 = .ok (.dup, 1) := by decide +kernel
theorem dX6_init_492 : decode cX6_init 492 = .ok (.bipush 17, 2) := by decide +kernel
theorem dX6_init_494 : decode cX6_init 494 = .ok (.bipush 111, 2) := by decide +kernel
theorem dX6_init_496 : decode cX6_init 496 = .ok (.castore, 1) := by decide +kernel
theorem dX6_init_497 : decode cX6_init 497 = .ok (.dup, 1) := by decide +kernel
theorem dX6_init_498 : decode cX6_init 498 = .ok (.bipush 18, 2) := by decide +kernel
theorem dX6_init_500 : decode cX6_init 500 = .ok (.bipush 114, 2) := by decide +kernel
theorem dX6_init_502 : decode cX6_init 502 = .ok (.castore, 1) := by decide +kernel
theorem dX6_init_503 : decode cX6_init 503 = .ok (.dup, 1) := by decide +kernel
theorem dX6_init_504 : decode cX6_init 504 = .ok (.bipush 19, 2) := by decide +kernel
theorem dX6_init_506 : decode cX6_init 506 = .ok (.bipush 116, 2) := by decide +kernel
theorem dX6_init_508 : decode cX6_init 508 = .ok (.castore, 1) := by decide +kernel
theorem dX6_init_509 : decode cX6_init 509 = .ok (.dup, 1) := by decide +kernel
theorem dX6_init_510 : decode cX6_init 510 = .ok (.bipush 20, 2) := by decide +kernel
theorem dX6_init_512 : decode cX6_init 512 = .ok (.bipush 104, 2) := by decide +kernel
theorem dX6_init_514 : decode cX6_init 514 = .ok (.castore, 1) := by decide +kernel
theorem dX6_init_515 : decode cX6_init 515 = .ok (.dup, 1) := by decide +kernel
theorem dX6_init_516 : decode cX6_init 516 = .ok (.bipush 21, 2) := by decide +kernel
theorem dX6_init_518 : decode cX6_init 518 = .ok (.bipush 32, 2) := by decide +kernel
theorem dX6_init_520 : decode cX6_init 520 = .ok (.castore, 1) := by decide +kernel
theorem dX6_init_521 : decode cX6_init 521 = .ok (.dup, 1) := by decide +kernel
theorem dX6_init_522 : decode cX6_init 522 = .ok (.bipush 22, 2) := by decide +kernel
theorem dX6_init_524 : decode cX6_init 524 = .ok (.bipush 32, 2) := by decide +kernel
theorem dX6_init_526 : decode cX6_init 526 = .ok (.castore, 1) := by decide +kernel
theorem dX6_init_527 : decode cX6_init 527 = .ok (.dup, 1) := by decide +kernel
theorem dX6_init_528 : decode cX6_init 528 = .ok (.bipush 23, 2) := by decide +kernel
theorem dX6_init_530 : decode cX6_init 530 = .ok (.bipush 32, 2) := by decide +kernel
theorem dX6_init_532 : decode cX6_init 532 = .ok (.castore, 1) := by decide +kernel
theorem dX6_init_533 : decode cX6_init 533 = .ok (.putfield 32, 3) := by decide +kernel
theorem dX6_init_536 : decode cX6_init 536 = .ok (.aload_n 0, 1) := by decide +kernel
theorem dX6_init_537 : decode cX6_init 537 = .ok (.bipush 16, 2) := by decide +kernel
theorem dX6_init_539 : decode cX6_init 539 = .ok (.newarray .char, 2) := by decide +kernel
theorem dX6_init_541 : decode cX6_init 541 = .ok (.dup, 1) := by decide +kernel
theorem dX6_init_542 : decode cX6_init 542 = .ok (.iconst 0, 1) := by decide +kernel
theorem dX6_init_543 : decode cX6_init 543 = .ok (.bipush 97, 2) := by decide +kernel
theorem dX6_init_545 : decode cX6_init 545 = .ok (.castore, 1) := by decide +kernel
theorem dX6_init_546 : decode cX6_init 546 = .ok (.dup, 1) := by decide +kernel
theorem dX6_init_547 : decode cX6_init 547 = .ok (.iconst 1, 1) := by decide +kernel
theorem dX6_init_548 : decode cX6_init 548 = .ok (.bipush 116, 2) := by decide +kernel
theorem dX6_init_550 : decode cX6_init 550 = .ok (.castore, 1) := by decide +kernel
theorem dX6_init_551 : decode cX6_init 551 = .ok (.dup, 1) := by decide +kernel
theorem dX6_init_552 : decode cX6_init 552 = .ok (.iconst 2, 1) := by decide +kernel
theorem dX6_init_553 : decode cX6_init 553 = .ok (.bipush 32, 2) := by decide +kernel
theorem dX6_init_555 : decode cX6_init 555 = .ok (.castore, 1) := by decide +kernel
theorem dX6_init_556 : decode cX6_init 556 = .ok (.dup, 1) := by decide +kernel
theorem dX6_init_557 : decode cX6_init 557 = .ok (.iconst 3, 1) := by decide +kernel
theorem dX6_init_558 : decode cX6_init 558 = .ok (.bipush 32, 2) := by decide +kernel
theorem dX6_init_560 : decode cX6_init 560 = .ok (.castore, 1) := by decide +kernel
theorem dX6_init_561 : decode cX6_init 561 = .ok (.dup, 1) := by decide +kernel
theorem dX6_init_562 : decode cX6_init 562 = .ok (.iconst 4, 1) := by decide +kernel
theorem dX6_init_563 : decode cX6_init 563 = .ok (.bipush 32, 2) := by decide +kernel
theorem dX6_init_565 : decode cX6_init 565 = .ok (.castore, 1) := by decide +kernel
theorem dX6_init_566 : decode cX6_init 566 = .ok (.dup, 1) := by decide +kernel
theorem dX6_init_567 : decode cX6_init 567 = .ok (.iconst 5, 1) := by decide +kernel
theorem dX6_init_568 : decode cX6_init 568 = .ok (.bipush 32, 2) := by decide +kernel
theorem dX6_init_570 : decode cX6_init 570 = .ok (.castore, 1) := by decide +kernel
theorem dX6_init_571 : decode cX6_init 571 = .ok (.dup, 1) := by decide +kernel
theorem dX6_init_572 : decode cX6_init 572 = .ok (.bipush 6, 2) := by decide +kernel
theorem dX6_init_574 : decode cX6_init 574 = .ok (.bipush 32, 2) := by decide +kernel
theorem dX6_init_576 : decode cX6_init 576 = .ok (.castore, 1) := by decide +kernel
theorem dX6_init_577 : decode cX6_init 577 = .ok (.dup, 1) := by decide +kernel
theorem dX6_init_578 : decode cX6_init 578 = .ok (.bipush 7, 2) := by decide +kernel
theorem dX6_init_580 : decode cX6_init 580 = .ok (.bipush 32, 2) := by decide +kernel
theorem dX6_init_582 : decode cX6_init 582 = .ok (.castore, 1) := by decide +kernel
theorem dX6_init_583 : decode cX6_init 583 = .ok (.dup, 1) := by decide +kernel
theorem dX6_init_584 : decode cX6_init 584 = .ok (.bipush 8, 2) := by decide +kernel
theorem dX6_init_586 : decode cX6_init 586 = .ok (.bipush 115, 2) := by decide +kernel
theorem dX6_init_588 : decode cX6_init 588 = .ok (.castore, 1) := by decide +kernel
theorem dX6_init_589 : decode cX6_init 589 = .ok (.dup, 1) := by decide +kernel
theorem dX6_init_590 : decode cX6_init 590 = .ok (.bipush 9, 2) := by decide +kernel
theorem dX6_init_592 : decode cX6_init 592 = .ok (.bipush 116, 2) := by decide +kernel
theorem dX6_init_594 : decode cX6_init 594 = .ok (.castore, 1) := by decide +kernel
theorem dX6_init_595 : decode cX6_init 595 = .ok (.dup, 1) := by decide +kernel
theorem dX6_init_596 : decode cX6_init 596 = .ok (.bipush 10, 2) := by decide +kernel
theorem dX6_init_598 : decode cX6_init 598 = .ok (.bipush 101, 2) := by decide +kernel
theorem dX6_init_600 : decode cX6_init 600 = .ok (.castore, 1) := by decide +kernel
theorem dX6_init_601 : decode cX6_init 601 = .ok (.dup, 1) := by decide +kernel
theorem dX6_init_602 : decode cX6_init 602 = .ok (.bipush 11, 2) := by decide +kernel
theorem dX6_init_604 : decode cX6_init 604 = .ok (.bipush 112, 2) := by decide +kernel
theorem dX6_init_606 : decode cX6_init 606 = .ok (.castore, 1) := by decide +kernel
theorem dX6_init_607 : decode cX6_init 607 = .ok (.dup, 1) := by decide +kernel
theorem dX6_init_608 : decode cX6_init 608 = .ok (.bipush 12, 2) := by decide +kernel
theorem dX6_init_610 : decode cX6_init 610 = .ok (.bipush 115, 2) := by decide +kernel
theorem dX6_init_612 : decode cX6_init 612 = .ok (.castore, 1) := by decide +kernel
theorem dX6_init_613 : decode cX6_init 613 = .ok (.dup, 1) := by decide +kernel
theorem dX6_init_614 : decode cX6_init 614 = .ok (.bipush 13, 2) := by decide +kernel
theorem dX6_init_616 : decode cX6_init 616 = .ok (.bipush 32, 2) := by decide +kernel
theorem dX6_init_618 : decode cX6_init 618 = .ok (.castore, 1) := by decide +kernel
theorem dX6_init_619 : decode cX6_init 619 = .ok (.dup, 1) := by decide +kernel
theorem dX6_init_620 : decode cX6_init 620 = .ok (.bipush 14, 2) := by decide +kernel
theorem dX6_init_622 : decode cX6_init 622 = .ok (.bipush 32, 2) := by decide +kernel
theorem dX6_init_624 : decode cX6_init 624 = .ok (.castore, 1) := by decide +kernel
theorem dX6_init_625 : decode cX6_init 625 = .ok (.dup, 1) := by decide +kernel
theorem dX6_init_626 : decode cX6_init 626 = .ok (.bipush 15, 2) := by decide +kernel
theorem dX6_init_628 : decode cX6_init 628 = .ok (.bipush 32, 2) := by decide +kernel
theorem dX6_init_630 : decode cX6_init 630 = .ok (.castore, 1) := by decide +kernel
theorem dX6_init_631 : decode cX6_init 631 = .ok (.putfield 35, 3) := by decide +kernel
theorem dX6_init_634 : decode cX6_init 634 = .ok (.aload_n 0, 1) := by decide +kernel
theorem dX6_init_635 : decode cX6_init 635 = .ok (.bipush 48, 2) := by decide +kernel
theorem dX6_init_637 : decode cX6_init 637 = .ok (.newarray .char, 2) := by decide +kernel
theorem dX6_init_639 : decode cX6_init 639 = .ok (.dup, 1) := by decide +kernel
theorem dX6_init_640 : decode cX6_init 640 = .ok (.iconst 0, 1) := by decide +kernel
theorem dX6_init_641 : decode cX6_init 641 = .ok (.bipush 100, 2) := by decide +kernel
theorem dX6_init_643 : decode cX6_init 643 = .ok (.castore, 1) := by decide +kernel
theorem dX6_init_644 : decode cX6_init 644 = .ok (.dup, 1) := by decide +kernel
theorem dX6_init_645 : decode cX6_init 645 = .ok (.iconst 1, 1) := by decide +kernel
theorem dX6_init_646 : decode cX6_init 646 = .ok (.bipush 117, 2) := by decide +kernel
theorem dX6_init_648 : decode cX6_init 648 = .ok (.castore, 1) := by decide +kernel
theorem dX6_init_649 : decode cX6_init 649 = .ok (.dup, 1) := by decide +kernel
theorem dX6_init_650 : decode cX6_init 650 = .ok (.iconst 2, 1) := by decide +kernel
theorem dX6_init_651 : decode cX6_init 651 = .ok (.bipush 115, 2) := by decide +kernel
theorem dX6_init_653 : decode cX6_init 653 = .ok (.castore, 1) := by decide +kernel
theorem dX6_init_654 : decode cX6_init 654 = .ok (.dup, 1) := by decide +kernel
theorem dX6_init_655 : decode cX6_init 655 = .ok (.iconst 3, 1) := by decide +kernel
theorem dX6_init_656 : decode cX6_init 656 = .ok (.bipush 116, 2) := by decide +kernel
theorem dX6_init_658 : decode cX6_init 658 = .ok (.castore, 1) := by decide +kernel
theorem dX6_init_659 : decode cX6_init 659 = .ok (.dup, 1) := by decide +kernel
theorem dX6_init_660 : decode cX6_init 660 = .ok (.iconst 4, 1) := by decide +kernel
theorem dX6_init_661 : decode cX6_init 661 = .ok (.bipush 32, 2) := by decide +kernel
theorem dX6_init_663 : decode cX6_init 663 = .ok (.castore, 1) := by decide +kernel
theorem dX6_init_664 : decode cX6_init 664 = .ok (.dup, 1) := by decide +kernel
theorem dX6_init_665 : decode cX6_init 665 = .ok (.iconst 5, 1) := by decide +kernel
theorem dX6_init_666 : decode cX6_init 666 = .ok (.bipush 32, 2) := by decide +kernel
theorem dX6_init_668 : decode cX6_init 668 = .ok (.castore, 1) := by decide +kernel
theorem dX6_init_669 : decode cX6_init 669 = .ok (.dup, 1) := by decide +kernel
theorem dX6_init_670 : decode cX6_init 670 = .ok (.bipush 6, 2) := by decide +kernel
theorem dX6_init_672 : decode cX6_init 672 = .ok (.bipush 32, 2) := by decide +kernel
theorem dX6_init_674 : decode cX6_init 674 = .ok (.castore, 1) := by decide +kernel
theorem dX6_init_675 : decode cX6_init 675 = .ok (.dup, 1) := by decide +kernel
theorem dX6_init_676 : decode cX6_init 676 = .ok (.bipush 7, 2) := by decide +kernel
theorem dX6_init_678 : decode cX6_init 678 = .ok (.bipush 32, 2) := by decide +kernel
theorem dX6_init_680 : decode cX6_init 680 = .ok (.castore, 1) := by decide +kernel
theorem dX6_init_681 : decode cX6_init 681 = .ok (.dup, 1) := by decide +kernel
theorem dX6_init_682 : decode cX6_init 682 = .ok (.bipush 8, 2) := by decide +kernel
theorem dX6_init_684 : decode cX6_init 684 = .ok (.bipush 119, 2) := by decide +kernel
theorem dX6_init_686 : decode cX6_init 686 = .ok (.castore, 1) := by decide +kernel
theorem dX6_init_687 : decode cX6_init 687 = .ok (.dup, 1) := by decide +kernel
theorem dX6_init_688 : decode cX6_init 688 = .ok (.bipush 9, 2) := by decide +kernel
theorem dX6_init_690 : decode cX6_init 690 = .ok (.bipush 105, 2) := by decide +kernel
theorem dX6_init_692 : decode cX6_init 692 = .ok (.castore, 1) := by decide +kernel
theorem dX6_init_693 : decode cX6_init 693 = .ok (.dup, 1) := by decide +kernel
theorem dX6_init_694 : decode cX6_init 694 = .ok (.bipush 10, 2) := by decide +kernel
theorem dX6_init_696 : decode cX6_init 696 = .ok (.bipush 115, 2) := by decide +kernel
theorem dX6_init_698 : decode cX6_init 698 = .ok (.castore, 1) := by decide +kernel
theorem dX6_init_699 : decode cX6_init 699 = .ok (.dup, 1) := by decide +kernel
theorem dX6_init_700 : decode cX6_init 700 = .ok (.bipush 11, 2) := by decide +kernel
theorem dX6_init_702 : decode cX6_init 702 = .ok (.bipush 104, 2) := by decide +kernel
theorem dX6_init_704 : decode cX6_init 704 = .ok (.castore, 1) := by decide +kernel
theorem dX6_init_705 : decode cX6_init 705 = .ok (.dup, 1) := by decide +kernel
theorem dX6_init_706 : decode cX6_init 706 = .ok (.bipush 12, 2) := by decide +kernel
theorem dX6_init_708 : decode cX6_init 708 = .ok (.bipush 101, 2) := by decide +kernel
theorem dX6_init_710 : decode cX6_init 710 = .ok (.castore, 1) := by decide +kernel
theorem dX6_init_711 : decode cX6_init 711 = .ok (.dup, 1) := by decide +kernel
theorem dX6_init_712 : decode cX6_init 712 = .ok (.bipush 13, 2) := by decide +kernel
theorem dX6_init_714 : decode cX6_init 714 = .ok (.bipush 115, 2) := by decide +kernel
theorem dX6_init_716 : decode cX6_init 716 = .ok (.castore, 1) := by decide +kernel
theorem dX6_init_717 : decode cX6_init 717 = .ok (.dup, 1) := by decide +kernel
theorem dX6_init_718 : decode cX6_init 718 = .ok (.bipush 14, 2) := by decide +kernel
theorem dX6_init_720 : decode cX6_init 720 = .ok (.bipush 32, 2) := by decide +kernel
theorem dX6_init_722 : decode cX6_init 722 = .ok (.castore, 1) := by decide +kernel
theorem dX6_init_723 : decode cX6_init 723 = .ok (.dup, 1) := by decide +kernel
theorem dX6_init_724 : decode cX6_init 724 = .ok (.bipush 15, 2) := by decide +kernel
theorem dX6_init_726 : decode cX6_init 726 = .ok (.bipush 32, 2) := by decide +kernel
theorem dX6_init_728 : decode cX6_init 728 = .ok (.castore, 1) := by decide +kernel
theorem dX6_init_729 : decode cX6_init 729 = .ok (.dup, 1) := by decide +kernel
theorem dX6_init_730 : decode cX6_init 730 = .ok (.bipush 16, 2) := by decide +kernel
theorem dX6_init_732 : decode cX6_init 732 = .ok (.bipush 109, 2) := by decide +kernel
theorem dX6_init_734 : decode cX6_init 734 = .ok (.castore, 1) := by decide +kernel
theorem dX6_init_735 : decode cX6_init 735 = .ok (.dup, 1) := by decide +kernel
theorem dX6_init_736 : decode cX6_init 736 = .ok (.bipush 17, 2) := by decide +kernel
theorem dX6_init_738 : decode cX6_init 738 = .ok (.bipush 101, 2) := by decide +kernel
theorem dX6_init_740 : decode cX6_init 740 = .ok (.castore, 1) := by decide +kernel
theorem dX6_init_741 : decode cX6_init 741 = .ok (.dup, 1) := by decide +kernel
theorem dX6_init_742 : decode cX6_init 742 = .ok (.bipush 18, 2) := by decide +kernel
theorem dX6_init_744 : decode cX6_init 744 = .ok (.bipush 110, 2) := by decide +kernel
theorem dX6_init_746 : decode cX6_init 746 = .ok (.castore, 1) := by decide +kernel
theorem dX6_init_747 : decode cX6_init 747 = .ok (.dup, 1) := by decide +kernel
theorem dX6_init_748 : decode cX6_init 748 = .ok (.bipush 19, 2) := by decide +kernel
theorem dX6_init_750 : decode cX6_init 750 = .ok (.bipush 100, 2) := by decide +kernel
theorem dX6_init_752 : decode cX6_init 752 = .ok (.castore, 1) := by decide +kernel
theorem dX6_init_753 : decode cX6_init 753 = .ok (.dup, 1) := by decide +kernel
theorem dX6_init_754 : decode cX6_init 754 = .ok (.bipush 20, 2) := by decide +kernel
theorem dX6_init_756 : decode cX6_init 756 = .ok (.bipush 32, 2) := by decide +kernel
theorem dX6_init_758 : decode cX6_init 758 = .ok (.castore, 1) := by decide +kernel
theorem dX6_init_759 : decode cX6_init 759 = .ok (.dup, 1) := by decide +kernel
theorem dX6_init_760 : decode cX6_init 760 = .ok (.bipush 21, 2) := by decide +kernel
theorem dX6_init_762 : decode cX6_init 762 = .ok (.bipush 32, 2) := by decide +kernel
theorem dX6_init_764 : decode cX6_init 764 = .ok (.castore, 1) := by decide +kernel
theorem dX6_init_765 : decode cX6_init 765 = .ok (.dup, 1) := by decide +kernel
theorem dX6_init_766 : decode cX6_init 766 = .ok (.bipush 22, 2) := by decide +kernel
theorem dX6_init_768 : decode cX6_init 768 = .ok (.bipush 32, 2) := by decide +kernel
theorem dX6_init_770 : decode cX6_init 770 = .ok (.castore, 1) := by decide +kernel
theorem dX6_init_771 : decode cX6_init 771 = .ok (.dup, 1) := by decide +kernel
theorem dX6_init_772 : decode cX6_init 772 = .ok (.bipush 23, 2) := by decide +kernel
theorem dX6_init_774 : decode cX6_init 774 = .ok (.bipush 32, 2) := by decide +kernel
theorem dX6_init_776 : decode cX6_init 776 = .ok (.castore, 1) := by decide +kernel
theorem dX6_init_777 : decode cX6_init 777 = .ok (.dup, 1) := by decide +kernel
theorem dX6_init_778 : decode cX6_init 778 = .ok (.bipush 24, 2) := by decide +kernel
theorem dX6_init_780 : decode cX6_init 780 = .ok (.bipush 112, 2) := by decide +kernel
theorem dX6_init_782 : decode cX6_init 782 = .ok (.castore, 1) := by decide +kernel
theorem dX6_init_783 : decode cX6_init 783 = .ok (.dup, 1) := by decide +kernel
theorem dX6_init_784 : decode cX6_init 784 = .ok (.bipush 25, 2) := by decide +kernel
theorem dX6_init_786 : decode cX6_init 786 = .ok (.bipush 97, 2) := by decide +kernel
theorem dX6_init_788 : decode cX6_init 788 = .ok (.castore, 1) := by decide +kernel
theorem dX6_init_789 : decode cX6_init 789 = .ok (.dup, 1) := by decide +kernel
theorem dX6_init_790 : decode cX6_init 790 = .ok (.bipush 26, 2) := by decide +kernel
theorem dX6_init_792 : decode cX6_init 792 = .ok (.bipush 114, 2) := by decide +kernel
theorem dX6_init_794 : decode cX6_init 794 = .ok (.castore, 1) := by decide +kernel
theorem dX6_init_795 : decode cX6_init 795 = .ok (.dup, 1) := by decide +kernel
theorem dX6_init_796 : decode cX6_init 796 = .ok (.bipush 27, 2) := by decide +kernel
theorem dX6_init_798 : decode cX6_init 798 = .ok (.bipush 116, 2) := by decide +kernel
theorem dX6_init_800 : decode cX6_init 800 = .ok (.castore, 1) := by decide +kernel
theorem dX6_init_801 : decode cX6_init 801 = .ok (.dup, 1) := by decide +kernel
theorem dX6_init_802 : decode cX6_init 802 = .ok (.bipush 28, 2) := by decide +kernel
theorem dX6_init_804 : decode cX6_init 804 = .ok (.bipush 115, 2) := by decide +kernel
theorem dX6_init_806 : decode cX6_init 806 = .ok (.castore, 1) := by decide +kernel
theorem dX6_init_807 : decode cX6_init 807 = .ok (.dup, 1) := by decide +kernel
theorem dX6_init_808 : decode cX6_init 808 = .ok (.bipush 29, 2) := by decide +kernel
theorem dX6_init_810 : decode cX6_init 810 = .ok (.bipush 32, 2) := by decide +kernel
theorem dX6_init_812 : decode cX6_init 812 = .ok (.castore, 1) := by decide +kernel
theorem dX6_init_813 : decode cX6_init 813 = .ok (.dup, 1) := by decide +kernel
theorem dX6_init_814 : decode cX6_init 814 = .ok (.bipush 30, 2) := by decide +kernel
theorem dX6_init_816 : decode cX6_init 816 = .ok (.bipush 32, 2) := by decide +kernel
theorem dX6_init_818 : decode cX6_init 818 = .ok (.castore, 1) := by decide +kernel
theorem dX6_init_819 : decode cX6_init 819 = .ok (.dup, 1) := by decide +kernel
theorem dX6_init_820 : decode cX6_init 820 = .ok (.bipush 31, 2) := by decide +kernel
theorem dX6_init_822 : decode cX6_init 822 = .ok (.bipush 32, 2) := by decide +kernel
theorem dX6_init_824 : decode cX6_init 824 = .ok (.castore, 1) := by decide +kernel
theorem dX6_init_825 : decode cX6_init 825 = .ok (.dup, 1) := by decide +kernel
theorem dX6_init_826 : decode cX6_init 826 = .ok (.bipush 32, 2) := by decide +kernel
theorem dX6_init_828 : decode cX6_init 828 = .ok (.bipush 99, 2) := by decide +kernel
theorem dX6_init_830 : decode cX6_init 830 = .ok (.castore, 1) := by decide +kernel
theorem dX6_init_831 : decode cX6_init 831 = .ok (.dup, 1) := by decide +kernel
theorem dX6_init_832 : decode cX6_init 832 = .ok (.bipush 33, 2) := by decide +kernel
theorem dX6_init_834 : decode cX6_init 834 = .ok (.bipush 114, 2) := by decide +kernel
theorem dX6_init_836 : decode cX6_init 836 = .ok (.castore, 1) := by decide +kernel
theorem dX6_init_837 : decode cX6_init 837 = .ok (.dup, 1) := by decide +kernel
theorem dX6_init_838 : decode cX6_init 838 = .ok (.bipush 34, 2) := by decide +kernel
theorem dX6_init_840 : decode cX6_init 840 = .ok (.bipush 101, 2) := by decide +kernel
theorem dX6_init_842 : decode cX6_init 842 = .ok (.castore, 1) := by decide +kernel
theorem dX6_init_843 : decode cX6_init 843 = .ok (.dup, 1) := by decide +kernel
theorem dX6_init_844 : decode cX6_init 844 = .ok (.bipush 35, 2) := by decide +kernel
theorem dX6_init_846 : decode cX6_init 846 = .ok (.bipush 119, 2) := by decide +kernel
theorem dX6_init_848 : decode cX6_init 848 = .ok (.castore, 1) := by decide +kernel
theorem dX6_init_849 : decode cX6_init 849 = .ok (.dup, 1) := by decide +kernel
theorem dX6_init_850 : decode cX6_init 850 = .ok (.bipush 36, 2) := by decide +kernel
theorem dX6_init_852 : decode cX6_init 852 = .ok (.bipush 32, 2) := by decide +kernel
theorem dX6_init_854 : decode cX6_init 854 = .ok (.castore, 1) := by decide +kernel
theorem dX6_init_855 : decode cX6_init 855 = .ok (.dup, 1) := by decide +kernel
theorem dX6_init_856 : decode cX6_init 856 = .ok (.bipush 37, 2) := by decide +kernel
theorem dX6_init_858 : decode cX6_init 858 = .ok (.bipush 32, 2) := by decide +kernel
theorem dX6_init_860 : decode cX6_init 860 = .ok (.castore, 1) := by decide +kernel
theorem dX6_init_861 : decode cX6_init 861 = .ok (.dup, 1) := by decide +kernel
theorem dX6_init_862 : decode cX6_init 862 = .ok (.bipush 38, 2) := by decide +kernel
theorem dX6_init_864 : decode cX6_init 864 = .ok (.bipush 32, 2) := by decide +kernel
theorem dX6_init_866 : decode cX6_init 866 = .ok (.castore, 1) := by decide +kernel
theorem dX6_init_867 : decode cX6_init 867 = .ok (.dup, 1) := by decide +kernel
theorem dX6_init_868 : decode cX6_init 868 = .ok (.bipush 39, 2) := by decide +kernel
theorem dX6_init_870 : decode cX6_init 870 = .ok (.bipush 32, 2) := by decide +kernel
theorem dX6_init_872 : decode cX6_init 872 = .ok (.castore, 1) := by decide +kernel
theorem dX6_init_873 : decode cX6_init 873 = .ok (.dup, 1) := by decide +kernel
theorem dX6_init_874 : decode cX6_init 874 = .ok (.bipush 40, 2) := by decide +kernel
theorem dX6_init_876 : decode cX6_init 876 = .ok (.bipush 115, 2) := by decide +kernel
theorem dX6_init_878 : decode cX6_init 878 = .ok (.castore, 1) := by decide +kernel
theorem dX6_init_879 : decode cX6_init 879 = .ok (.dup, 1) := by decide +kernel
theorem dX6_init_880 : decode cX6_init 880 = .ok (.bipush 41, 2) := by decide +kernel
theorem dX6_init_882 : decode cX6_init 882 = .ok (.bipush 105, 2) := by decide +kernel
theorem dX6_init_884 : decode cX6_init 884 = .ok (.castore, 1) := by decide +kernel
theorem dX6_init_885 : decode cX6_init 885 = .ok (.dup, 1) := by decide +kernel
theorem dX6_init_886 : decode cX6_init 886 = .ok (.bipush 42, 2) := by decide +kernel
theorem dX6_init_888 : decode cX6_init 888 = .ok (.bipush 103, 2) := by decide +kernel
theorem dX6_init_890 : decode cX6_init 890 = .ok (.castore, 1) := by decide +kernel
theorem dX6_init_891 : decode cX6_init 891 = .ok (.dup, 1) := by decide +kernel
theorem dX6_init_892 : decode cX6_init 892 = .ok (.bipush 43, 2) := by decide +kernel
theorem dX6_init_894 : decode cX6_init 894 = .ok (.bipush 110, 2) := by decide +kernel
theorem dX6_init_896 : decode cX6_init 896 = .ok (.castore, 1) := by decide +kernel
theorem dX6_init_897 : decode cX6_init 897 = .ok (.dup, 1) := by decide +kernel
theorem dX6_init_898 : decode cX6_init 898 = .ok (.bipush 44, 2) := by decide +kernel
theorem dX6_init_900 : decode cX6_init 900 = .ok (.bipush 32, 2) := by decide +kernel
theorem dX6_init_902 : decode cX6_init 902 = .ok (.castore, 1) := by decide +kernel
theorem dX6_init_903 : decode cX6_init 903 = .ok (.dup, 1) := by decide +kernel
theorem dX6_init_904 : decode cX6_init 904 = .ok (.bipush 45, 2) := by decide +kernel
theorem dX6_init_906 : decode cX6_init 906 = .ok (.bipush 32, 2) := by decide +kernel
theorem dX6_init_908 : decode cX6_init 908 = .ok (.castore, 1) := by decide +kernel
theorem dX6_init_909 : decode cX6_init 909 = .ok (.dup, 1) := by decide +kernel
theorem dX6_init_910 : decode cX6_init 910 = .ok (.bipush 46, 2) := by decide +kernel
theorem dX6_init_912 : decode cX6_init 912 = .ok (.bipush 32, 2) := by decide +kernel
theorem dX6_init_914 : decode cX6_init 914 = .ok (.castore, 1) := by decide +kernel
theorem dX6_init_915 : decode cX6_init 915 = .ok (.dup, 1) := by decide +kernel
theorem dX6_init_916 : decode cX6_init 916 = .ok (.bipush 47, 2) := by decide +kernel
theorem dX6_init_918 : decode cX6_init 918 = .ok (.bipush 32, 2) := by decide +kernel
theorem dX6_init_920 : decode cX6_init 920 = .ok (.castore, 1) := by decide +kernel
theorem dX6_init_921 : decode cX6_init 921 = .ok (.putfield 38, 3) := by decide +kernel
theorem dX6_init_924 : decode cX6_init 924 = .ok (.aload_n 0, 1) := by decide +kernel
theorem dX6_init_925 : decode cX6_init 925 = .ok (.iconst 4, 1) := by decide +kernel
theorem dX6_init_926 : decode cX6_init 926 = .ok (.newarray .int, 2) := by decide +kernel
theorem dX6_init_928 : decode cX6_init 928 = .ok (.putfield 41, 3) := by decide +kernel
theorem dX6_init_931 : decode cX6_init 931 = .ok (.aload_n 0, 1) := by decide +kernel
theorem dX6_init_932 : decode cX6_init 932 = .ok (.iconst 4, 1) := by decide +kernel
theorem dX6_init_933 : decode cX6_init 933 = .ok (.newarray .int, 2) := by decide +kernel
theorem dX6_init_935 : decode cX6_init 935 = .ok (.putfield 44, 3) := by decide +kernel
theorem dX6_init_938 : decode cX6_init 938 = .ok (.aload_n 0, 1) := by decide +kernel
theorem dX6_init_939 : decode cX6_init 939 = .ok (.sipush 160, 3) := by decide +kernel
theorem dX6_init_942 : decode cX6_init 942 = .ok (.newarray .int, 2) := by decide +kernel
theorem dX6_init_944 : decode cX6_init 944 = .ok (.putfield 47, 3) := by decide +kernel
theorem dX6_init_947 : decode cX6_init 947 = .ok (.aload_n 0, 1) := by decide +kernel
theorem dX6_init_948 : decode cX6_init 948 = .ok (.bipush 40, 2) := by decide +kernel
theorem dX6_init_950 : decode cX6_init 950 = .ok (.newarray .int, 2) := by decide +kernel
theorem dX6_init_952 : decode cX6_init 952 = .ok (.putfield 50, 3) := by decide +kernel
theorem dX6_init_955 : decode cX6_init 955 = .ok (.aload_n 0, 1) := by decide +kernel
theorem dX6_init_956 : decode cX6_init 956 = .ok (.getfield 9, 3) := by decide +kernel
theorem dX6_init_959 : decode cX6_init 959 = .ok (.iconst 3, 1) := by decide +kernel
theorem dX6_init_960 : decode cX6_init 960 = .ok (.iconst 1, 1) := by decide +kernel
theorem dX6_init_961 : decode cX6_init 961 = .ok (.iastore, 1) := by decide +kernel
theorem dX6_init_962 : decode cX6_init 962 = .ok (.aload_n 0, 1) := by decide +kernel
theorem dX6_init_963 : decode cX6_init 963 = .ok (.getfield 9, 3) := by decide +kernel
theorem dX6_init_966 : decode cX6_init 966 = .ok (.iconst 4, 1) := by decide +kernel
theorem dX6_init_967 : decode cX6_init 967 = .ok (.iconst 1, 1) := by decide +kernel
theorem dX6_init_968 : decode cX6_init 968 = .ok (.iastore, 1) := by decide +kernel
theorem dX6_init_969 : decode cX6_init 969 = .ok (.aload_n 0, 1) := by decide +kernel
theorem dX6_init_970 : decode cX6_init 970 = .ok (.getfield 9, 3) := by decide +kernel
theorem dX6_init_973 : decode cX6_init 973 = .ok (.bipush 6, 2) := by decide +kernel
theorem dX6_init_975 : decode cX6_init 975 = .ok (.iconst 5, 1) := by decide +kernel
theorem dX6_init_976 : decode cX6_init 976 = .ok (.iastore, 1) := by decide +kernel
theorem dX6_init_977 : decode cX6_init 977 = .ok (.aload_n 0, 1) := by decide +kernel
theorem dX6_init_978 : decode cX6_init 978 = .ok (.getfield 9, 3) := by decide +kernel
theorem dX6_init_981 : decode cX6_init 981 = .ok (.bipush 7, 2) := by decide +kernel
theorem dX6_init_983 : decode cX6_init 983 = .ok (.bipush 20, 2) := by decide +kernel
theorem dX6_init_985 : decode cX6_init 985 = .ok (.iastore, 1) := by decide +kernel
theorem dX6_init_986 : decode cX6_init 986 = .ok (.iconst 0, 1) := by decide +kernel
theorem dX6_init_987 : decode cX6_init 987 = .ok (.istore_n 1, 1) := by decide +kernel
theorem dX6_init_988 : decode cX6_init 988 = .ok (.iload_n 1, 1) := by decide +kernel
theorem dX6_init_989 : decode cX6_init 989 = .ok (.iconst 4, 1) := by decide +kernel
theorem dX6_init_990 : decode cX6_init 990 = .ok (.if_icmp .ge 24, 3) := by decide +kernel
theorem dX6_init_993 : decode cX6_init 993 = .ok (.aload_n 0, 1) := by decide +kernel
theorem dX6_init_994 : decode cX6_init 994 = .ok (.getfield 9, 3) := by decide +kernel
theorem dX6_init_997 : decode cX6_init 997 = .ok (.bipush 8, 2) := by decide +kernel
theorem dX6_init_999 : decode cX6_init 999 = .ok (.iconst 2, 1) := by decide +kernel
theorem dX6_init_1000 : decode cX6_init 1000 = .ok (.iload_n 1, 1) := by decide +kernel
theorem dX6_init_1001 : decode cX6_init 1001 = .ok (.imul, 1) := by decide +kernel
theorem dX6_init_1002 : decode cX6_init 1002 = .ok (.iadd, 1) := by decide +kernel
theorem dX6_init_1003 : decode cX6_init 1003 = .ok (.iconst 1, 1) := by decide +kernel
theorem dX6_init_1004 : decode cX6_init 1004 = .ok (.iadd, 1) := by decide +kernel
theorem dX6_init_1005 : decode cX6_init 1005 = .ok (.bipush 60, 2) := by decide +kernel
theorem dX6_init_1007 : decode cX6_init 1007 = .ok (.iastore, 1) := by decide +kernel
theorem dX6_init_1008 : decode cX6_init 1008 = .ok (.iinc 1 1, 3) := by decide +kernel
theorem dX6_init_1011 : decode cX6_init 1011 = .ok (.goto (-23), 3) := by decide +kernel
theorem dX6_init_1014 : decode cX6_init 1014 = .ok (.iconst 0, 1) := by decide +kernel
theorem dX6_init_1015 : decode cX6_init 1015 = .ok (.istore_n 1, 1) := by decide +kernel
theorem dX6_init_1016 : decode cX6_init 1016 = .ok (.iload_n 1, 1) := by decide +kernel
theorem dX6_init_1017 : decode cX6_init 1017 = .ok (.bipush 10, 2) := by decide +kernel
theorem dX6_init_1019 : decode cX6_init 1019 = .ok (.if_icmp .ge 19, 3) := by decide +kernel
theorem dX6_init_1022 : decode cX6_init 1022 = .ok (.aload_n 0, 1) := by decide +kernel
theorem dX6_init_1023 : decode cX6_init 1023 = .ok (.getfield 9, 3) := by decide +kernel
theorem dX6_init_1026 : decode cX6_init 1026 = .ok (.bipush 62, 2) := by decide +kernel
theorem dX6_init_1028 : decode cX6_init 1028 = .ok (.iload_n 1, 1) := by decide +kernel
theorem dX6_init_1029 : decode cX6_init 1029 = .ok (.iadd, 1) := by decide +kernel
theorem dX6_init_1030 : decode cX6_init 1030 = .ok (.iconst (-1), 1) := by decide +kernel
theorem dX6_init_1031 : decode cX6_init 1031 = .ok (.iastore, 1) := by decide +kernel
theorem dX6_init_1032 : decode cX6_init 1032 = .ok (.iinc 1 1, 3) := by decide +kernel
theorem dX6_init_1035 : decode cX6_init 1035 = .ok (.goto (-19), 3) := by decide +kernel
theorem dX6_init_1038 : decode cX6_init 1038 = .ok (.return_, 1) := by decide +kernel
theorem dX6_no_0 : decode cX6_no 0 = .ok (.aload_n 0, 1) := by decide +kernel
theorem dX6_no_1 : decode cX6_no 1 = .ok (.getfield 19, 3) := by decide +kernel
theorem dX6_no_4 : decode cX6_no 4 = .ok (.iload_n 1, 1) := by decide +kernel
theorem dX6_no_5 : decode cX6_no 5 = .ok (.dup2, 1) := by decide +kernel
theorem dX6_no_6 : decode cX6_no 6 = .ok (.iaload, 1) := by decide +kernel
theorem dX6_no_7 : decode cX6_no 7 = .ok (.iconst 1, 1) := by decide +kernel
theorem dX6_no_8 : decode cX6_no 8 = .ok (.iadd, 1) := by decide +kernel
theorem dX6_no_9 : decode cX6_no 9 = .ok (.iastore, 1) := by decide +kernel
theorem dX6_no_10 : decode cX6_no 10 = .ok (.ldc 53, 2) := by decide +kernel
theorem dX6_no_12 : decode cX6_no 12 = .ok (.iload_n 1, 1) := by decide +kernel
theorem dX6_no_13 : decode cX6_no 13 = .ok (.isub, 1) := by decide +kernel
theorem dX6_no_14 : decode cX6_no 14 = .ok (.ireturn, 1) := by decide +kernel
theorem dX6_in1_0 : decode cX6_in1 0 = .ok (.iload_n 0, 1) := by decide +kernel
theorem dX6_in1_1 : decode cX6_in1 1 = .ok (.iload_n 1, 1) := by decide +kernel
theorem dX6_in1_2 : decode cX6_in1 2 = .ok (.if_icmp .lt 12, 3) := by decide +kernel
theorem dX6_in1_5 : decode cX6_in1 5 = .ok (.iload_n 0, 1) := by decide +kernel
theorem dX6_in1_6 : decode cX6_in1 6 = .ok (.iload_n 2, 1) := by decide +kernel
theorem dX6_in1_7 : decode cX6_in1 7 = .ok (.if_icmp .gt 7, 3) := by decide +kernel
theorem dX6_in1_10 : decode cX6_in1 10 = .ok (.iconst 1, 1) := by decide +kernel
theorem dX6_in1_11 : decode cX6_in1 11 = .ok (.goto 4, 3) := by decide +kernel
theorem dX6_in1_14 : decode cX6_in1 14 = .ok (.iconst 0, 1) := by decide +kernel
theorem dX6_in1_15 : decode cX6_in1 15 = .ok (.ireturn, 1) := by decide +kernel
theorem dX6_less_0 : decode cX6_less 0 = .ok (.iload_n 0, 1) := by decide +kernel
theorem dX6_less_1 : decode cX6_less 1 = .ok (.iload_n 1, 1) := by decide +kernel
theorem dX6_less_2 : decode cX6_less 2 = .ok (.if_icmp .ge 7, 3) := by decide +kernel
theorem dX6_less_5 : decode cX6_less 5 = .ok (.iload_n 0, 1) := by decide +kernel
theorem dX6_less_6 : decode cX6_less 6 = .ok (.goto 4, 3) := by decide +kernel
theorem dX6_less_9 : decode cX6_less 9 = .ok (.iload_n 1, 1) := by decide +kernel
theorem dX6_less_10 : decode cX6_less 10 = .ok (.ireturn, 1) := by decide +kernel
theorem dX6_greater_0 : decode cX6_greater 0 = .ok (.iload_n 0, 1) := by decide +kernel
theorem dX6_greater_1 : decode cX6_greater 1 = .ok (.iload_n 1, 1) := by decide +kernel
theorem dX6_greater_2 : decode cX6_greater 2 = .ok (.if_icmp .le 7, 3) := by decide +kernel
theorem dX6_greater_5 : decode cX6_greater 5 = .ok (.iload_n 0, 1) := by decide +kernel
theorem dX6_greater_6 : decode cX6_greater 6 = .ok (.goto 4, 3) := by decide +kernel
theorem dX6_greater_9 : decode cX6_greater 9 = .ok (.iload_n 1, 1) := by decide +kernel
theorem dX6_greater_10 : decode cX6_greater 10 = .ok (.ireturn, 1) := by decide +kernel
theorem dX6_bits_0 : decode cX6_bits 0 = .ok (.iconst 0, 1) := by decide +kernel
theorem dX6_bits_1 : decode cX6_bits 1 = .ok (.istore_n 1, 1) := by decide +kernel
theorem dX6_bits_2 : decode cX6_bits 2 = .ok (.iload_n 0, 1) := by decide +kernel
theorem dX6_bits_3 : decode cX6_bits 3 = .ok (.istore_n 2, 1) := by decide +kernel
theorem dX6_bits_4 : decode cX6_bits 4 = .ok (.iload_n 2, 1) := by decide +kernel
theorem dX6_bits_5 : decode cX6_bits 5 = .ok (.ifCond .eq 15, 3) := by decide +kernel
theorem dX6_bits_8 : decode cX6_bits 8 = .ok (.iinc 1 1, 3) := by decide +kernel
theorem dX6_bits_11 : decode cX6_bits 11 = .ok (.iload_n 2, 1) := by decide +kernel
theorem dX6_bits_12 : decode cX6_bits 12 = .ok (.iload_n 2, 1) := by decide +kernel
theorem dX6_bits_13 : decode cX6_bits 13 = .ok (.iconst 1, 1) := by decide +kernel
theorem dX6_bits_14 : decode cX6_bits 14 = .ok (.isub, 1) := by decide +kernel
theorem dX6_bits_15 : decode cX6_bits 15 = .ok (.iand, 1) := by decide +kernel
theorem dX6_bits_16 : decode cX6_bits 16 = .ok (.istore_n 2, 1) := by decide +kernel
theorem dX6_bits_17 : decode cX6_bits 17 = .ok (.goto (-13), 3) := by decide +kernel
theorem dX6_bits_20 : decode cX6_bits 20 = .ok (.iload_n 1, 1) := by decide +kernel
theorem dX6_bits_21 : decode cX6_bits 21 = .ok (.ireturn, 1) := by decide +kernel
theorem dX6_isIn_0 : decode cX6_isIn 0 = .ok (.iload_n 0, 1) := by decide +kernel
theorem dX6_isIn_1 : decode cX6_isIn 1 = .ok (.iload_n 1, 1) := by decide +kernel
theorem dX6_isIn_2 : decode cX6_isIn 2 = .ok (.ishr, 1) := by decide +kernel
theorem dX6_isIn_3 : decode cX6_isIn 3 = .ok (.iconst 1, 1) := by decide +kernel
theorem dX6_isIn_4 : decode cX6_isIn 4 = .ok (.iand, 1) := by decide +kernel
theorem dX6_isIn_5 : decode cX6_isIn 5 = .ok (.iconst 1, 1) := by decide +kernel
theorem dX6_isIn_6 : decode cX6_isIn 6 = .ok (.if_icmp .ne 7, 3) := by decide +kernel
theorem dX6_isIn_9 : decode cX6_isIn 9 = .ok (.iconst 1, 1) := by decide +kernel
theorem dX6_isIn_10 : decode cX6_isIn 10 = .ok (.goto 4, 3) := by decide +kernel
theorem dX6_isIn_13 : decode cX6_isIn 13 = .ok (.iconst 0, 1) := by decide +kernel
theorem dX6_isIn_14 : decode cX6_isIn 14 = .ok (.ireturn, 1) := by decide +kernel
theorem dX6_isPlace_0 : decode cX6_isPlace 0 = .ok (.iload_n 0, 1) := by decide +kernel
theorem dX6_isPlace_1 : decode cX6_isPlace 1 = .ok (.iconst 0, 1) := by decide +kernel
theorem dX6_isPlace_2 : decode cX6_isPlace 2 = .ok (.bipush 99, 2) := by decide +kernel
theorem dX6_isPlace_4 : decode cX6_isPlace 4 = .ok (.invokestatic 54, 3) := by decide +kernel
theorem dX6_isPlace_7 : decode cX6_isPlace 7 = .ok (.ireturn, 1) := by decide +kernel
theorem dX6_isCrew_0 : decode cX6_isCrew 0 = .ok (.iload_n 0, 1) := by decide +kernel
theorem dX6_isCrew_1 : decode cX6_isCrew 1 = .ok (.iconst 0, 1) := by decide +kernel
theorem dX6_isCrew_2 : decode cX6_isCrew 2 = .ok (.iconst 3, 1) := by decide +kernel
theorem dX6_isCrew_3 : decode cX6_isCrew 3 = .ok (.invokestatic 54, 3) := by decide +kernel
theorem dX6_isCrew_6 : decode cX6_isCrew 6 = .ok (.ireturn, 1) := by decide +kernel
theorem dX6_isStar_0 : decode cX6_isStar 0 = .ok (.iload_n 1, 1) := by decide +kernel
theorem dX6_isStar_1 : decode cX6_isStar 1 = .ok (.iconst 0, 1) := by decide +kernel
theorem dX6_isStar_2 : decode cX6_isStar 2 = .ok (.aload_n 0, 1) := by decide +kernel
theorem dX6_isStar_3 : decode cX6_isStar 3 = .ok (.getfield 9, 3) := by decide +kernel
theorem dX6_isStar_6 : decode cX6_isStar 6 = .ok (.iconst 1, 1) := by decide +kernel
theorem dX6_isStar_7 : decode cX6_isStar 7 = .ok (.iaload, 1) := by decide +kernel
theorem dX6_isStar_8 : decode cX6_isStar 8 = .ok (.iconst 1, 1) := by decide +kernel
theorem dX6_isStar_9 : decode cX6_isStar 9 = .ok (.isub, 1) := by decide +kernel
theorem dX6_isStar_10 : decode cX6_isStar 10 = .ok (.invokestatic 54, 3) := by decide +kernel
theorem dX6_isStar_13 : decode cX6_isStar 13 = .ok (.ireturn, 1) := by decide +kernel
theorem dX6_isSet_0 : decode cX6_isSet 0 = .ok (.iload_n 1, 1) := by decide +kernel
theorem dX6_isSet_1 : decode cX6_isSet 1 = .ok (.iconst 0, 1) := by decide +kernel
theorem dX6_isSet_2 : decode cX6_isSet 2 = .ok (.iconst 1, 1) := by decide +kernel
theorem dX6_isSet_3 : decode cX6_isSet 3 = .ok (.aload_n 0, 1) := by decide +kernel
theorem dX6_isSet_4 : decode cX6_isSet 4 = .ok (.getfield 9, 3) := by decide +kernel
theorem dX6_isSet_7 : decode cX6_isSet 7 = .ok (.iconst 1, 1) := by decide +kernel
theorem dX6_isSet_8 : decode cX6_isSet 8 = .ok (.iaload, 1) := by decide +kernel
theorem dX6_isSet_9 : decode cX6_isSet 9 = .ok (.ishl, 1) := by decide +kernel
theorem dX6_isSet_10 : decode cX6_isSet 10 = .ok (.iconst 1, 1) := by decide +kernel
theorem dX6_isSet_11 : decode cX6_isSet 11 = .ok (.isub, 1) := by decide +kernel
theorem dX6_isSet_12 : decode cX6_isSet 12 = .ok (.invokestatic 54, 3) := by decide +kernel
theorem dX6_isSet_15 : decode cX6_isSet 15 = .ok (.ireturn, 1) := by decide +kernel
theorem dX6_get_0 : decode cX6_get 0 = .ok (.aload_n 0, 1) := by decide +kernel
theorem dX6_get_1 : decode cX6_get 1 = .ok (.getfield 9, 3) := by decide +kernel
theorem dX6_get_4 : decode cX6_get 4 = .ok (.bipush 16, 2) := by decide +kernel
theorem dX6_get_6 : decode cX6_get 6 = .ok (.iconst 4, 1) := by decide +kernel
theorem dX6_get_7 : decode cX6_get 7 = .ok (.iload_n 1, 1) := by decide +kernel
theorem dX6_get_8 : decode cX6_get 8 = .ok (.imul, 1) := by decide +kernel
theorem dX6_get_9 : decode cX6_get 9 = .ok (.iadd, 1) := by decide +kernel
theorem dX6_get_10 : decode cX6_get 10 = .ok (.iload_n 2, 1) := by decide +kernel
theorem dX6_get_11 : decode cX6_get 11 = .ok (.iadd, 1) := by decide +kernel
theorem dX6_get_12 : decode cX6_get 12 = .ok (.iaload, 1) := by decide +kernel
theorem dX6_get_13 : decode cX6_get 13 = .ok (.ireturn, 1) := by decide +kernel
theorem dX6_puts_0 : decode cX6_puts 0 = .ok (.aload_n 0, 1) := by decide +kernel
theorem dX6_puts_1 : decode cX6_puts 1 = .ok (.getfield 9, 3) := by decide +kernel
theorem dX6_puts_4 : decode cX6_puts 4 = .ok (.bipush 16, 2) := by decide +kernel
theorem dX6_puts_6 : decode cX6_puts 6 = .ok (.iconst 4, 1) := by decide +kernel
theorem dX6_puts_7 : decode cX6_puts 7 = .ok (.iload_n 1, 1) := by decide +kernel
theorem dX6_puts_8 : decode cX6_puts 8 = .ok (.imul, 1) := by decide +kernel
theorem dX6_puts_9 : decode cX6_puts 9 = .ok (.iadd, 1) := by decide +kernel
theorem dX6_puts_10 : decode cX6_puts 10 = .ok (.iload_n 2, 1) := by decide +kernel
theorem dX6_puts_11 : decode cX6_puts 11 = .ok (.iadd, 1) := by decide +kernel
theorem dX6_puts_12 : decode cX6_puts 12 = .ok (.iload_n 3, 1) := by decide +kernel
theorem dX6_puts_13 : decode cX6_puts 13 = .ok (.iastore, 1) := by decide +kernel
theorem dX6_puts_14 : decode cX6_puts 14 = .ok (.return_, 1) := by decide +kernel
theorem dX6_at_0 : decode cX6_at 0 = .ok (.aload_n 0, 1) := by decide +kernel
theorem dX6_at_1 : decode cX6_at 1 = .ok (.getfield 9, 3) := by decide +kernel
theorem dX6_at_4 : decode cX6_at 4 = .ok (.bipush 8, 2) := by decide +kernel
theorem dX6_at_6 : decode cX6_at 6 = .ok (.iconst 2, 1) := by decide +kernel
theorem dX6_at_7 : decode cX6_at 7 = .ok (.iload_n 1, 1) := by decide +kernel
theorem dX6_at_8 : decode cX6_at 8 = .ok (.imul, 1) := by decide +kernel
theorem dX6_at_9 : decode cX6_at 9 = .ok (.iadd, 1) := by decide +kernel
theorem dX6_at_10 : decode cX6_at 10 = .ok (.iaload, 1) := by decide +kernel
theorem dX6_at_11 : decode cX6_at 11 = .ok (.ireturn, 1) := by decide +kernel
theorem dX6_stepsOf_0 : decode cX6_stepsOf 0 = .ok (.aload_n 0, 1) := by decide +kernel
theorem dX6_stepsOf_1 : decode cX6_stepsOf 1 = .ok (.getfield 9, 3) := by decide +kernel
theorem dX6_stepsOf_4 : decode cX6_stepsOf 4 = .ok (.bipush 8, 2) := by decide +kernel
theorem dX6_stepsOf_6 : decode cX6_stepsOf 6 = .ok (.iconst 2, 1) := by decide +kernel
theorem dX6_stepsOf_7 : decode cX6_stepsOf 7 = .ok (.iload_n 1, 1) := by decide +kernel
theorem dX6_stepsOf_8 : decode cX6_stepsOf 8 = .ok (.imul, 1) := by decide +kernel
theorem dX6_stepsOf_9 : decode cX6_stepsOf 9 = .ok (.iadd, 1) := by decide +kernel
theorem dX6_stepsOf_10 : decode cX6_stepsOf 10 = .ok (.iconst 1, 1) := by decide +kernel
theorem dX6_stepsOf_11 : decode cX6_stepsOf 11 = .ok (.iadd, 1) := by decide +kernel
theorem dX6_stepsOf_12 : decode cX6_stepsOf 12 = .ok (.iaload, 1) := by decide +kernel
theorem dX6_stepsOf_13 : decode cX6_stepsOf 13 = .ok (.ireturn, 1) := by decide +kernel
theorem dX6_setsAside_0 : decode cX6_setsAside 0 = .ok (.iconst 0, 1) := by decide +kernel
theorem dX6_setsAside_1 : decode cX6_setsAside 1 = .ok (.istore_n 1, 1) := by decide +kernel
theorem dX6_setsAside_2 : decode cX6_setsAside 2 = .ok (.iload_n 1, 1) := by decide +kernel
theorem dX6_setsAside_3 : decode cX6_setsAside 3 = .ok (.bipush 72, 2) := by decide +kernel
theorem dX6_setsAside_5 : decode cX6_setsAside 5 = .ok (.if_icmp .ge 21, 3) := by decide +kernel
theorem dX6_setsAside_8 : decode cX6_setsAside 8 = .ok (.aload_n 0, 1) := by decide +kernel
theorem dX6_setsAside_9 : decode cX6_setsAside 9 = .ok (.getfield 16, 3) := by decide +kernel
theorem dX6_setsAside_12 : decode cX6_setsAside 12 = .ok (.iload_n 1, 1) := by decide +kernel
theorem dX6_setsAside_13 : decode cX6_setsAside 13 = .ok (.aload_n 0, 1) := by decide +kernel
theorem dX6_setsAside_14 : decode cX6_setsAside 14 = .ok (.getfield 9, 3) := by decide +kernel
theorem dX6_setsAside_17 : decode cX6_setsAside 17 = .ok (.iload_n 1, 1) := by decide +kernel
theorem dX6_setsAside_18 : decode cX6_setsAside 18 = .ok (.iaload, 1) := by decide +kernel
theorem dX6_setsAside_19 : decode cX6_setsAside 19 = .ok (.iastore, 1) := by decide +kernel
theorem dX6_setsAside_20 : decode cX6_setsAside 20 = .ok (.iinc 1 1, 3) := by decide +kernel
theorem dX6_setsAside_23 : decode cX6_setsAside 23 = .ok (.goto (-21), 3) := by decide +kernel
theorem dX6_setsAside_26 : decode cX6_setsAside 26 = .ok (.return_, 1) := by decide +kernel
theorem dX6_laysBack_0 : decode cX6_laysBack 0 = .ok (.iconst 0, 1) := by decide +kernel
theorem dX6_laysBack_1 : decode cX6_laysBack 1 = .ok (.istore_n 1, 1) := by decide +kernel
theorem dX6_laysBack_2 : decode cX6_laysBack 2 = .ok (.iload_n 1, 1) := by decide +kernel
theorem dX6_laysBack_3 : decode cX6_laysBack 3 = .ok (.bipush 72, 2) := by decide +kernel
theorem dX6_laysBack_5 : decode cX6_laysBack 5 = .ok (.if_icmp .ge 21, 3) := by decide +kernel
theorem dX6_laysBack_8 : decode cX6_laysBack 8 = .ok (.aload_n 0, 1) := by decide +kernel
theorem dX6_laysBack_9 : decode cX6_laysBack 9 = .ok (.getfield 9, 3) := by decide +kernel
theorem dX6_laysBack_12 : decode cX6_laysBack 12 = .ok (.iload_n 1, 1) := by decide +kernel
theorem dX6_laysBack_13 : decode cX6_laysBack 13 = .ok (.aload_n 0, 1) := by decide +kernel
theorem dX6_laysBack_14 : decode cX6_laysBack 14 = .ok (.getfield 16, 3) := by decide +kernel
theorem dX6_laysBack_17 : decode cX6_laysBack 17 = .ok (.iload_n 1, 1) := by decide +kernel
theorem dX6_laysBack_18 : decode cX6_laysBack 18 = .ok (.iaload, 1) := by decide +kernel
theorem dX6_laysBack_19 : decode cX6_laysBack 19 = .ok (.iastore, 1) := by decide +kernel
theorem dX6_laysBack_20 : decode cX6_laysBack 20 = .ok (.iinc 1 1, 3) := by decide +kernel
theorem dX6_laysBack_23 : decode cX6_laysBack 23 = .ok (.goto (-21), 3) := by decide +kernel
theorem dX6_laysBack_26 : decode cX6_laysBack 26 = .ok (.return_, 1) := by decide +kernel
end
section
theorem dX6_wearOf_0 : decode cX6_wearOf 0 = .ok (.aload_n 0, 1) := by decide +kernel
theorem dX6_wearOf_1 : decode cX6_wearOf 1 = .ok (.getfield 9, 3) := by decide +kernel
theorem dX6_wearOf_4 : decode cX6_wearOf 4 = .ok (.iconst 4, 1) := by decide +kernel
theorem dX6_wearOf_5 : decode cX6_wearOf 5 = .ok (.iaload, 1) := by decide +kernel
theorem dX6_wearOf_6 : decode cX6_wearOf 6 = .ok (.iconst 1, 1) := by decide +kernel
theorem dX6_wearOf_7 : decode cX6_wearOf 7 = .ok (.iadd, 1) := by decide +kernel
theorem dX6_wearOf_8 : decode cX6_wearOf 8 = .ok (.istore_n 2, 1) := by decide +kernel
theorem dX6_wearOf_9 : decode cX6_wearOf 9 = .ok (.iload_n 2, 1) := by decide +kernel
theorem dX6_wearOf_10 : decode cX6_wearOf 10 = .ok (.iconst 2, 1) := by decide +kernel
theorem dX6_wearOf_11 : decode cX6_wearOf 11 = .ok (.idiv, 1) := by decide +kernel
theorem dX6_wearOf_12 : decode cX6_wearOf 12 = .ok (.aload_n 0, 1) := by decide +kernel
theorem dX6_wearOf_13 : decode cX6_wearOf 13 = .ok (.getfield 9, 3) := by decide +kernel
theorem dX6_wearOf_16 : decode cX6_wearOf 16 = .ok (.iconst 5, 1) := by decide +kernel
theorem dX6_wearOf_17 : decode cX6_wearOf 17 = .ok (.iaload, 1) := by decide +kernel
theorem dX6_wearOf_18 : decode cX6_wearOf 18 = .ok (.iconst 5, 1) := by decide +kernel
theorem dX6_wearOf_19 : decode cX6_wearOf 19 = .ok (.if_icmp .lt 7, 3) := by decide +kernel
theorem dX6_wearOf_22 : decode cX6_wearOf 22 = .ok (.iconst 1, 1) := by decide +kernel
theorem dX6_wearOf_23 : decode cX6_wearOf 23 = .ok (.goto 4, 3) := by decide +kernel
theorem dX6_wearOf_26 : decode cX6_wearOf 26 = .ok (.iconst 0, 1) := by decide +kernel
theorem dX6_wearOf_27 : decode cX6_wearOf 27 = .ok (.iadd, 1) := by decide +kernel
theorem dX6_wearOf_28 : decode cX6_wearOf 28 = .ok (.istore_n 3, 1) := by decide +kernel
theorem dX6_wearOf_29 : decode cX6_wearOf 29 = .ok (.aload_n 0, 1) := by decide +kernel
theorem dX6_wearOf_30 : decode cX6_wearOf 30 = .ok (.iload_n 1, 1) := by decide +kernel
theorem dX6_wearOf_31 : decode cX6_wearOf 31 = .ok (.iconst 0, 1) := by decide +kernel
theorem dX6_wearOf_32 : decode cX6_wearOf 32 = .ok (.invokevirtual 58, 3) := by decide +kernel
theorem dX6_wearOf_35 : decode cX6_wearOf 35 = .ok (.tableswitch 77 1 6 #[37, 41, 45, 47, 56, 71], 37) := by decide +kernel
theorem dX6_wearOf_72 : decode cX6_wearOf 72 = .ok (.iload_n 2, 1) := by decide +kernel
theorem dX6_wearOf_73 : decode cX6_wearOf 73 = .ok (.iconst 2, 1) := by decide +kernel
theorem dX6_wearOf_74 : decode cX6_wearOf 74 = .ok (.iadd, 1) := by decide +kernel
theorem dX6_wearOf_75 : decode cX6_wearOf 75 = .ok (.ireturn, 1) := by decide +kernel
theorem dX6_wearOf_76 : decode cX6_wearOf 76 = .ok (.iload_n 2, 1) := by decide +kernel
theorem dX6_wearOf_77 : decode cX6_wearOf 77 = .ok (.iconst 2, 1) := by decide +kernel
theorem dX6_wearOf_78 : decode cX6_wearOf 78 = .ok (.idiv, 1) := by decide +kernel
theorem dX6_wearOf_79 : decode cX6_wearOf 79 = .ok (.ireturn, 1) := by decide +kernel
theorem dX6_wearOf_80 : decode cX6_wearOf 80 = .ok (.iload_n 3, 1) := by decide +kernel
theorem dX6_wearOf_81 : decode cX6_wearOf 81 = .ok (.ireturn, 1) := by decide +kernel
theorem dX6_wearOf_82 : decode cX6_wearOf 82 = .ok (.iload_n 3, 1) := by decide +kernel
theorem dX6_wearOf_83 : decode cX6_wearOf 83 = .ok (.aload_n 0, 1) := by decide +kernel
theorem dX6_wearOf_84 : decode cX6_wearOf 84 = .ok (.getfield 9, 3) := by decide +kernel
theorem dX6_wearOf_87 : decode cX6_wearOf 87 = .ok (.iconst 5, 1) := by decide +kernel
theorem dX6_wearOf_88 : decode cX6_wearOf 88 = .ok (.iaload, 1) := by decide +kernel
theorem dX6_wearOf_89 : decode cX6_wearOf 89 = .ok (.iadd, 1) := by decide +kernel
theorem dX6_wearOf_90 : decode cX6_wearOf 90 = .ok (.ireturn, 1) := by decide +kernel
theorem dX6_wearOf_91 : decode cX6_wearOf 91 = .ok (.iload_n 2, 1) := by decide +kernel
theorem dX6_wearOf_92 : decode cX6_wearOf 92 = .ok (.bipush 99, 2) := by decide +kernel
theorem dX6_wearOf_94 : decode cX6_wearOf 94 = .ok (.aload_n 0, 1) := by decide +kernel
theorem dX6_wearOf_95 : decode cX6_wearOf 95 = .ok (.iload_n 1, 1) := by decide +kernel
theorem dX6_wearOf_96 : decode cX6_wearOf 96 = .ok (.iconst 2, 1) := by decide +kernel
theorem dX6_wearOf_97 : decode cX6_wearOf 97 = .ok (.invokevirtual 58, 3) := by decide +kernel
theorem dX6_wearOf_100 : decode cX6_wearOf 100 = .ok (.isub, 1) := by decide +kernel
theorem dX6_wearOf_101 : decode cX6_wearOf 101 = .ok (.bipush 10, 2) := by decide +kernel
theorem dX6_wearOf_103 : decode cX6_wearOf 103 = .ok (.idiv, 1) := by decide +kernel
theorem dX6_wearOf_104 : decode cX6_wearOf 104 = .ok (.iadd, 1) := by decide +kernel
theorem dX6_wearOf_105 : decode cX6_wearOf 105 = .ok (.ireturn, 1) := by decide +kernel
theorem dX6_wearOf_106 : decode cX6_wearOf 106 = .ok (.iconst 2, 1) := by decide +kernel
theorem dX6_wearOf_107 : decode cX6_wearOf 107 = .ok (.iload_n 2, 1) := by decide +kernel
theorem dX6_wearOf_108 : decode cX6_wearOf 108 = .ok (.iconst 2, 1) := by decide +kernel
theorem dX6_wearOf_109 : decode cX6_wearOf 109 = .ok (.iadd, 1) := by decide +kernel
theorem dX6_wearOf_110 : decode cX6_wearOf 110 = .ok (.imul, 1) := by decide +kernel
theorem dX6_wearOf_111 : decode cX6_wearOf 111 = .ok (.ireturn, 1) := by decide +kernel
theorem dX6_wearOf_112 : decode cX6_wearOf 112 = .ok (.iload_n 2, 1) := by decide +kernel
theorem dX6_wearOf_113 : decode cX6_wearOf 113 = .ok (.ireturn, 1) := by decide +kernel
theorem dX6_dimOf_0 : decode cX6_dimOf 0 = .ok (.aload_n 0, 1) := by decide +kernel
theorem dX6_dimOf_1 : decode cX6_dimOf 1 = .ok (.iload_n 1, 1) := by decide +kernel
theorem dX6_dimOf_2 : decode cX6_dimOf 2 = .ok (.iconst 0, 1) := by decide +kernel
theorem dX6_dimOf_3 : decode cX6_dimOf 3 = .ok (.invokevirtual 58, 3) := by decide +kernel
theorem dX6_dimOf_6 : decode cX6_dimOf 6 = .ok (.tableswitch 55 1 6 #[38, 41, 43, 43, 45, 38], 38) := by decide +kernel
theorem dX6_dimOf_44 : decode cX6_dimOf 44 = .ok (.bipush 19, 2) := by decide +kernel
theorem dX6_dimOf_46 : decode cX6_dimOf 46 = .ok (.ireturn, 1) := by decide +kernel
theorem dX6_dimOf_47 : decode cX6_dimOf 47 = .ok (.iconst 4, 1) := by decide +kernel
theorem dX6_dimOf_48 : decode cX6_dimOf 48 = .ok (.ireturn, 1) := by decide +kernel
theorem dX6_dimOf_49 : decode cX6_dimOf 49 = .ok (.iconst 0, 1) := by decide +kernel
theorem dX6_dimOf_50 : decode cX6_dimOf 50 = .ok (.ireturn, 1) := by decide +kernel
theorem dX6_dimOf_51 : decode cX6_dimOf 51 = .ok (.bipush 9, 2) := by decide +kernel
theorem dX6_dimOf_53 : decode cX6_dimOf 53 = .ok (.aload_n 0, 1) := by decide +kernel
theorem dX6_dimOf_54 : decode cX6_dimOf 54 = .ok (.getfield 9, 3) := by decide +kernel
theorem dX6_dimOf_57 : decode cX6_dimOf 57 = .ok (.iconst 5, 1) := by decide +kernel
theorem dX6_dimOf_58 : decode cX6_dimOf 58 = .ok (.iaload, 1) := by decide +kernel
theorem dX6_dimOf_59 : decode cX6_dimOf 59 = .ok (.iadd, 1) := by decide +kernel
theorem dX6_dimOf_60 : decode cX6_dimOf 60 = .ok (.ireturn, 1) := by decide +kernel
theorem dX6_dimOf_61 : decode cX6_dimOf 61 = .ok (.bipush 9, 2) := by decide +kernel
theorem dX6_dimOf_63 : decode cX6_dimOf 63 = .ok (.ireturn, 1) := by decide +kernel
theorem dX6_shines_0 : decode cX6_shines 0 = .ok (.aload_n 0, 1) := by decide +kernel
theorem dX6_shines_1 : decode cX6_shines 1 = .ok (.iload_n 1, 1) := by decide +kernel
theorem dX6_shines_2 : decode cX6_shines 2 = .ok (.iconst 2, 1) := by decide +kernel
theorem dX6_shines_3 : decode cX6_shines 3 = .ok (.invokevirtual 58, 3) := by decide +kernel
theorem dX6_shines_6 : decode cX6_shines 6 = .ok (.aload_n 0, 1) := by decide +kernel
theorem dX6_shines_7 : decode cX6_shines 7 = .ok (.iload_n 1, 1) := by decide +kernel
theorem dX6_shines_8 : decode cX6_shines 8 = .ok (.invokevirtual 62, 3) := by decide +kernel
theorem dX6_shines_11 : decode cX6_shines 11 = .ok (.if_icmp .le 7, 3) := by decide +kernel
theorem dX6_shines_14 : decode cX6_shines 14 = .ok (.iconst 1, 1) := by decide +kernel
theorem dX6_shines_15 : decode cX6_shines 15 = .ok (.goto 4, 3) := by decide +kernel
theorem dX6_shines_18 : decode cX6_shines 18 = .ok (.iconst 0, 1) := by decide +kernel
theorem dX6_shines_19 : decode cX6_shines 19 = .ok (.ireturn, 1) := by decide +kernel
theorem dX6_shining_0 : decode cX6_shining 0 = .ok (.iconst 0, 1) := by decide +kernel
theorem dX6_shining_1 : decode cX6_shining 1 = .ok (.istore_n 1, 1) := by decide +kernel
theorem dX6_shining_2 : decode cX6_shining 2 = .ok (.iconst 0, 1) := by decide +kernel
theorem dX6_shining_3 : decode cX6_shining 3 = .ok (.istore_n 2, 1) := by decide +kernel
theorem dX6_shining_4 : decode cX6_shining 4 = .ok (.iload_n 2, 1) := by decide +kernel
theorem dX6_shining_5 : decode cX6_shining 5 = .ok (.aload_n 0, 1) := by decide +kernel
theorem dX6_shining_6 : decode cX6_shining 6 = .ok (.getfield 9, 3) := by decide +kernel
theorem dX6_shining_9 : decode cX6_shining 9 = .ok (.iconst 1, 1) := by decide +kernel
theorem dX6_shining_10 : decode cX6_shining 10 = .ok (.iaload, 1) := by decide +kernel
theorem dX6_shining_11 : decode cX6_shining 11 = .ok (.if_icmp .ge 27, 3) := by decide +kernel
theorem dX6_shining_14 : decode cX6_shining 14 = .ok (.iload_n 1, 1) := by decide +kernel
theorem dX6_shining_15 : decode cX6_shining 15 = .ok (.aload_n 0, 1) := by decide +kernel
theorem dX6_shining_16 : decode cX6_shining 16 = .ok (.iload_n 2, 1) := by decide +kernel
theorem dX6_shining_17 : decode cX6_shining 17 = .ok (.invokevirtual 66, 3) := by decide +kernel
theorem dX6_shining_20 : decode cX6_shining 20 = .ok (.ifCond .eq 9, 3) := by decide +kernel
theorem dX6_shining_23 : decode cX6_shining 23 = .ok (.iconst 1, 1) := by decide +kernel
theorem dX6_shining_24 : decode cX6_shining 24 = .ok (.iload_n 2, 1) := by decide +kernel
theorem dX6_shining_25 : decode cX6_shining 25 = .ok (.ishl, 1) := by decide +kernel
theorem dX6_shining_26 : decode cX6_shining 26 = .ok (.goto 4, 3) := by decide +kernel
theorem dX6_shining_29 : decode cX6_shining 29 = .ok (.iconst 0, 1) := by decide +kernel
theorem dX6_shining_30 : decode cX6_shining 30 = .ok (.ior, 1) := by decide +kernel
theorem dX6_shining_31 : decode cX6_shining 31 = .ok (.istore_n 1, 1) := by decide +kernel
theorem dX6_shining_32 : decode cX6_shining 32 = .ok (.iinc 2 1, 3) := by decide +kernel
theorem dX6_shining_35 : decode cX6_shining 35 = .ok (.goto (-31), 3) := by decide +kernel
theorem dX6_shining_38 : decode cX6_shining 38 = .ok (.iload_n 1, 1) := by decide +kernel
theorem dX6_shining_39 : decode cX6_shining 39 = .ok (.ireturn, 1) := by decide +kernel
theorem dX6_lives_0 : decode cX6_lives 0 = .ok (.iconst 0, 1) := by decide +kernel
theorem dX6_lives_1 : decode cX6_lives 1 = .ok (.istore_n 1, 1) := by decide +kernel
theorem dX6_lives_2 : decode cX6_lives 2 = .ok (.iconst 0, 1) := by decide +kernel
theorem dX6_lives_3 : decode cX6_lives 3 = .ok (.istore_n 2, 1) := by decide +kernel
theorem dX6_lives_4 : decode cX6_lives 4 = .ok (.iload_n 2, 1) := by decide +kernel
theorem dX6_lives_5 : decode cX6_lives 5 = .ok (.aload_n 0, 1) := by decide +kernel
theorem dX6_lives_6 : decode cX6_lives 6 = .ok (.getfield 9, 3) := by decide +kernel
theorem dX6_lives_9 : decode cX6_lives 9 = .ok (.iconst 1, 1) := by decide +kernel
theorem dX6_lives_10 : decode cX6_lives 10 = .ok (.iaload, 1) := by decide +kernel
theorem dX6_lives_11 : decode cX6_lives 11 = .ok (.if_icmp .ge 18, 3) := by decide +kernel
theorem dX6_lives_14 : decode cX6_lives 14 = .ok (.iload_n 1, 1) := by decide +kernel
theorem dX6_lives_15 : decode cX6_lives 15 = .ok (.aload_n 0, 1) := by decide +kernel
theorem dX6_lives_16 : decode cX6_lives 16 = .ok (.iload_n 2, 1) := by decide +kernel
theorem dX6_lives_17 : decode cX6_lives 17 = .ok (.iconst 2, 1) := by decide +kernel
theorem dX6_lives_18 : decode cX6_lives 18 = .ok (.invokevirtual 58, 3) := by decide +kernel
theorem dX6_lives_21 : decode cX6_lives 21 = .ok (.iadd, 1) := by decide +kernel
theorem dX6_lives_22 : decode cX6_lives 22 = .ok (.istore_n 1, 1) := by decide +kernel
theorem dX6_lives_23 : decode cX6_lives 23 = .ok (.iinc 2 1, 3) := by decide +kernel
theorem dX6_lives_26 : decode cX6_lives 26 = .ok (.goto (-22), 3) := by decide +kernel
theorem dX6_lives_29 : decode cX6_lives 29 = .ok (.iload_n 1, 1) := by decide +kernel
theorem dX6_lives_30 : decode cX6_lives 30 = .ok (.ireturn, 1) := by decide +kernel
theorem dX6_worthOf_0 : decode cX6_worthOf 0 = .ok (.iconst 0, 1) := by decide +kernel
theorem dX6_worthOf_1 : decode cX6_worthOf 1 = .ok (.istore_n 2, 1) := by decide +kernel
theorem dX6_worthOf_2 : decode cX6_worthOf 2 = .ok (.iconst 0, 1) := by decide +kernel
theorem dX6_worthOf_3 : decode cX6_worthOf 3 = .ok (.istore_n 3, 1) := by decide +kernel
theorem dX6_worthOf_4 : decode cX6_worthOf 4 = .ok (.iload_n 3, 1) := by decide +kernel
theorem dX6_worthOf_5 : decode cX6_worthOf 5 = .ok (.aload_n 0, 1) := by decide +kernel
theorem dX6_worthOf_6 : decode cX6_worthOf 6 = .ok (.getfield 9, 3) := by decide +kernel
theorem dX6_worthOf_9 : decode cX6_worthOf 9 = .ok (.iconst 1, 1) := by decide +kernel
theorem dX6_worthOf_10 : decode cX6_worthOf 10 = .ok (.iaload, 1) := by decide +kernel
theorem dX6_worthOf_11 : decode cX6_worthOf 11 = .ok (.if_icmp .ge 30, 3) := by decide +kernel
theorem dX6_worthOf_14 : decode cX6_worthOf 14 = .ok (.iload_n 2, 1) := by decide +kernel
theorem dX6_worthOf_15 : decode cX6_worthOf 15 = .ok (.iload_n 1, 1) := by decide +kernel
theorem dX6_worthOf_16 : decode cX6_worthOf 16 = .ok (.iload_n 3, 1) := by decide +kernel
theorem dX6_worthOf_17 : decode cX6_worthOf 17 = .ok (.invokestatic 70, 3) := by decide +kernel
theorem dX6_worthOf_20 : decode cX6_worthOf 20 = .ok (.ifCond .eq 12, 3) := by decide +kernel
theorem dX6_worthOf_23 : decode cX6_worthOf 23 = .ok (.aload_n 0, 1) := by decide +kernel
theorem dX6_worthOf_24 : decode cX6_worthOf 24 = .ok (.iload_n 3, 1) := by decide +kernel
theorem dX6_worthOf_25 : decode cX6_worthOf 25 = .ok (.iconst 3, 1) := by decide +kernel
theorem dX6_worthOf_26 : decode cX6_worthOf 26 = .ok (.invokevirtual 58, 3) := by decide +kernel
theorem dX6_worthOf_29 : decode cX6_worthOf 29 = .ok (.goto 4, 3) := by decide +kernel
theorem dX6_worthOf_32 : decode cX6_worthOf 32 = .ok (.iconst 0, 1) := by decide +kernel
theorem dX6_worthOf_33 : decode cX6_worthOf 33 = .ok (.iadd, 1) := by decide +kernel
theorem dX6_worthOf_34 : decode cX6_worthOf 34 = .ok (.istore_n 2, 1) := by decide +kernel
theorem dX6_worthOf_35 : decode cX6_worthOf 35 = .ok (.iinc 3 1, 3) := by decide +kernel
theorem dX6_worthOf_38 : decode cX6_worthOf 38 = .ok (.goto (-34), 3) := by decide +kernel
theorem dX6_worthOf_41 : decode cX6_worthOf 41 = .ok (.iload_n 2, 1) := by decide +kernel
theorem dX6_worthOf_42 : decode cX6_worthOf 42 = .ok (.ireturn, 1) := by decide +kernel
theorem dX6_night_0 : decode cX6_night 0 = .ok (.iconst 0, 1) := by decide +kernel
theorem dX6_night_1 : decode cX6_night 1 = .ok (.istore_n 1, 1) := by decide +kernel
theorem dX6_night_2 : decode cX6_night 2 = .ok (.iload_n 1, 1) := by decide +kernel
theorem dX6_night_3 : decode cX6_night 3 = .ok (.aload_n 0, 1) := by decide +kernel
theorem dX6_night_4 : decode cX6_night 4 = .ok (.getfield 9, 3) := by decide +kernel
theorem dX6_night_7 : decode cX6_night 7 = .ok (.iconst 1, 1) := by decide +kernel
theorem dX6_night_8 : decode cX6_night 8 = .ok (.iaload, 1) := by decide +kernel
theorem dX6_night_9 : decode cX6_night 9 = .ok (.if_icmp .ge 31, 3) := by decide +kernel
theorem dX6_night_12 : decode cX6_night 12 = .ok (.aload_n 0, 1) := by decide +kernel
theorem dX6_night_13 : decode cX6_night 13 = .ok (.iload_n 1, 1) := by decide +kernel
theorem dX6_night_14 : decode cX6_night 14 = .ok (.iconst 2, 1) := by decide +kernel
theorem dX6_night_15 : decode cX6_night 15 = .ok (.iconst 0, 1) := by decide +kernel
theorem dX6_night_16 : decode cX6_night 16 = .ok (.aload_n 0, 1) := by decide +kernel
theorem dX6_night_17 : decode cX6_night 17 = .ok (.iload_n 1, 1) := by decide +kernel
theorem dX6_night_18 : decode cX6_night 18 = .ok (.iconst 2, 1) := by decide +kernel
theorem dX6_night_19 : decode cX6_night 19 = .ok (.invokevirtual 58, 3) := by decide +kernel
theorem dX6_night_22 : decode cX6_night 22 = .ok (.aload_n 0, 1) := by decide +kernel
theorem dX6_night_23 : decode cX6_night 23 = .ok (.iload_n 1, 1) := by decide +kernel
theorem dX6_night_24 : decode cX6_night 24 = .ok (.invokevirtual 74, 3) := by decide +kernel
theorem dX6_night_27 : decode cX6_night 27 = .ok (.isub, 1) := by decide +kernel
theorem dX6_night_28 : decode cX6_night 28 = .ok (.invokestatic 77, 3) := by decide +kernel
theorem dX6_night_31 : decode cX6_night 31 = .ok (.invokevirtual 80, 3) := by decide +kernel
theorem dX6_night_34 : decode cX6_night 34 = .ok (.iinc 1 1, 3) := by decide +kernel
theorem dX6_night_37 : decode cX6_night 37 = .ok (.goto (-35), 3) := by decide +kernel
theorem dX6_night_40 : decode cX6_night 40 = .ok (.aload_n 0, 1) := by decide +kernel
theorem dX6_night_41 : decode cX6_night 41 = .ok (.getfield 9, 3) := by decide +kernel
theorem dX6_night_44 : decode cX6_night 44 = .ok (.iconst 0, 1) := by decide +kernel
theorem dX6_night_45 : decode cX6_night 45 = .ok (.ldc 84, 2) := by decide +kernel
theorem dX6_night_47 : decode cX6_night 47 = .ok (.aload_n 0, 1) := by decide +kernel
theorem dX6_night_48 : decode cX6_night 48 = .ok (.getfield 9, 3) := by decide +kernel
theorem dX6_night_51 : decode cX6_night 51 = .ok (.iconst 0, 1) := by decide +kernel
theorem dX6_night_52 : decode cX6_night 52 = .ok (.iaload, 1) := by decide +kernel
theorem dX6_night_53 : decode cX6_night 53 = .ok (.iconst 1, 1) := by decide +kernel
theorem dX6_night_54 : decode cX6_night 54 = .ok (.iadd, 1) := by decide +kernel
theorem dX6_night_55 : decode cX6_night 55 = .ok (.invokestatic 85, 3) := by decide +kernel
theorem dX6_night_58 : decode cX6_night 58 = .ok (.iastore, 1) := by decide +kernel
theorem dX6_night_59 : decode cX6_night 59 = .ok (.return_, 1) := by decide +kernel
theorem dX6_nights_0 : decode cX6_nights 0 = .ok (.iconst 0, 1) := by decide +kernel
theorem dX6_nights_1 : decode cX6_nights 1 = .ok (.istore_n 2, 1) := by decide +kernel
theorem dX6_nights_2 : decode cX6_nights 2 = .ok (.iload_n 2, 1) := by decide +kernel
theorem dX6_nights_3 : decode cX6_nights 3 = .ok (.iload_n 1, 1) := by decide +kernel
theorem dX6_nights_4 : decode cX6_nights 4 = .ok (.if_icmp .ge 13, 3) := by decide +kernel
theorem dX6_nights_7 : decode cX6_nights 7 = .ok (.aload_n 0, 1) := by decide +kernel
theorem dX6_nights_8 : decode cX6_nights 8 = .ok (.invokevirtual 88, 3) := by decide +kernel
theorem dX6_nights_11 : decode cX6_nights 11 = .ok (.iinc 2 1, 3) := by decide +kernel
theorem dX6_nights_14 : decode cX6_nights 14 = .ok (.goto (-12), 3) := by decide +kernel
theorem dX6_nights_17 : decode cX6_nights 17 = .ok (.return_, 1) := by decide +kernel
theorem dX6_addsStar_0 : decode cX6_addsStar 0 = .ok (.aload_n 0, 1) := by decide +kernel
theorem dX6_addsStar_1 : decode cX6_addsStar 1 = .ok (.getfield 9, 3) := by decide +kernel
theorem dX6_addsStar_4 : decode cX6_addsStar 4 = .ok (.iconst 1, 1) := by decide +kernel
theorem dX6_addsStar_5 : decode cX6_addsStar 5 = .ok (.iaload, 1) := by decide +kernel
theorem dX6_addsStar_6 : decode cX6_addsStar 6 = .ok (.istore_n 3, 1) := by decide +kernel
theorem dX6_addsStar_7 : decode cX6_addsStar 7 = .ok (.aload_n 0, 1) := by decide +kernel
theorem dX6_addsStar_8 : decode cX6_addsStar 8 = .ok (.iload_n 3, 1) := by decide +kernel
theorem dX6_addsStar_9 : decode cX6_addsStar 9 = .ok (.iconst 0, 1) := by decide +kernel
theorem dX6_addsStar_10 : decode cX6_addsStar 10 = .ok (.iload_n 1, 1) := by decide +kernel
theorem dX6_addsStar_11 : decode cX6_addsStar 11 = .ok (.invokevirtual 80, 3) := by decide +kernel
theorem dX6_addsStar_14 : decode cX6_addsStar 14 = .ok (.aload_n 0, 1) := by decide +kernel
theorem dX6_addsStar_15 : decode cX6_addsStar 15 = .ok (.iload_n 3, 1) := by decide +kernel
theorem dX6_addsStar_16 : decode cX6_addsStar 16 = .ok (.iconst 1, 1) := by decide +kernel
theorem dX6_addsStar_17 : decode cX6_addsStar 17 = .ok (.iload_n 2, 1) := by decide +kernel
theorem dX6_addsStar_18 : decode cX6_addsStar 18 = .ok (.invokevirtual 80, 3) := by decide +kernel
theorem dX6_addsStar_21 : decode cX6_addsStar 21 = .ok (.aload_n 0, 1) := by decide +kernel
theorem dX6_addsStar_22 : decode cX6_addsStar 22 = .ok (.iload_n 3, 1) := by decide +kernel
theorem dX6_addsStar_23 : decode cX6_addsStar 23 = .ok (.iconst 2, 1) := by decide +kernel
theorem dX6_addsStar_24 : decode cX6_addsStar 24 = .ok (.bipush 50, 2) := by decide +kernel
theorem dX6_addsStar_26 : decode cX6_addsStar 26 = .ok (.invokevirtual 80, 3) := by decide +kernel
theorem dX6_addsStar_29 : decode cX6_addsStar 29 = .ok (.aload_n 0, 1) := by decide +kernel
theorem dX6_addsStar_30 : decode cX6_addsStar 30 = .ok (.iload_n 3, 1) := by decide +kernel
theorem dX6_addsStar_31 : decode cX6_addsStar 31 = .ok (.iconst 3, 1) := by decide +kernel
theorem dX6_addsStar_32 : decode cX6_addsStar 32 = .ok (.iconst 1, 1) := by decide +kernel
theorem dX6_addsStar_33 : decode cX6_addsStar 33 = .ok (.invokevirtual 80, 3) := by decide +kernel
theorem dX6_addsStar_36 : decode cX6_addsStar 36 = .ok (.aload_n 0, 1) := by decide +kernel
theorem dX6_addsStar_37 : decode cX6_addsStar 37 = .ok (.getfield 9, 3) := by decide +kernel
theorem dX6_addsStar_40 : decode cX6_addsStar 40 = .ok (.iconst 1, 1) := by decide +kernel
theorem dX6_addsStar_41 : decode cX6_addsStar 41 = .ok (.dup2, 1) := by decide +kernel
theorem dX6_addsStar_42 : decode cX6_addsStar 42 = .ok (.iaload, 1) := by decide +kernel
theorem dX6_addsStar_43 : decode cX6_addsStar 43 = .ok (.iconst 1, 1) := by decide +kernel
theorem dX6_addsStar_44 : decode cX6_addsStar 44 = .ok (.iadd, 1) := by decide +kernel
theorem dX6_addsStar_45 : decode cX6_addsStar 45 = .ok (.iastore, 1) := by decide +kernel
theorem dX6_addsStar_46 : decode cX6_addsStar 46 = .ok (.return_, 1) := by decide +kernel
theorem dX6_star_0 : decode cX6_star 0 = .ok (.iload_n 1, 1) := by decide +kernel
theorem dX6_star_1 : decode cX6_star 1 = .ok (.iconst 0, 1) := by decide +kernel
theorem dX6_star_2 : decode cX6_star 2 = .ok (.bipush 6, 2) := by decide +kernel
theorem dX6_star_4 : decode cX6_star 4 = .ok (.invokestatic 54, 3) := by decide +kernel
theorem dX6_star_7 : decode cX6_star 7 = .ok (.ifCond .eq 10, 3) := by decide +kernel
theorem dX6_star_10 : decode cX6_star 10 = .ok (.iload_n 2, 1) := by decide +kernel
theorem dX6_star_11 : decode cX6_star 11 = .ok (.invokestatic 91, 3) := by decide +kernel
theorem dX6_star_14 : decode cX6_star 14 = .ok (.ifCond .ne 9, 3) := by decide +kernel
theorem dX6_star_17 : decode cX6_star 17 = .ok (.aload_n 0, 1) := by decide +kernel
theorem dX6_star_18 : decode cX6_star 18 = .ok (.iconst 0, 1) := by decide +kernel
theorem dX6_star_19 : decode cX6_star 19 = .ok (.invokevirtual 94, 3) := by decide +kernel
theorem dX6_star_22 : decode cX6_star 22 = .ok (.ireturn, 1) := by decide +kernel
theorem dX6_star_23 : decode cX6_star 23 = .ok (.aload_n 0, 1) := by decide +kernel
theorem dX6_star_24 : decode cX6_star 24 = .ok (.getfield 9, 3) := by decide +kernel
theorem dX6_star_27 : decode cX6_star 27 = .ok (.iconst 1, 1) := by decide +kernel
theorem dX6_star_28 : decode cX6_star 28 = .ok (.iaload, 1) := by decide +kernel
theorem dX6_star_29 : decode cX6_star 29 = .ok (.bipush 10, 2) := by decide +kernel
theorem dX6_star_31 : decode cX6_star 31 = .ok (.if_icmp .ne 9, 3) := by decide +kernel
theorem dX6_star_34 : decode cX6_star 34 = .ok (.aload_n 0, 1) := by decide +kernel
theorem dX6_star_35 : decode cX6_star 35 = .ok (.iconst 1, 1) := by decide +kernel
theorem dX6_star_36 : decode cX6_star 36 = .ok (.invokevirtual 94, 3) := by decide +kernel
theorem dX6_star_39 : decode cX6_star 39 = .ok (.ireturn, 1) := by decide +kernel
theorem dX6_star_40 : decode cX6_star 40 = .ok (.aload_n 0, 1) := by decide +kernel
theorem dX6_star_41 : decode cX6_star 41 = .ok (.iload_n 1, 1) := by decide +kernel
theorem dX6_star_42 : decode cX6_star 42 = .ok (.iload_n 2, 1) := by decide +kernel
theorem dX6_star_43 : decode cX6_star 43 = .ok (.invokevirtual 97, 3) := by decide +kernel
theorem dX6_star_46 : decode cX6_star 46 = .ok (.aload_n 0, 1) := by decide +kernel
theorem dX6_star_47 : decode cX6_star 47 = .ok (.getfield 9, 3) := by decide +kernel
theorem dX6_star_50 : decode cX6_star 50 = .ok (.iconst 1, 1) := by decide +kernel
theorem dX6_star_51 : decode cX6_star 51 = .ok (.iaload, 1) := by decide +kernel
theorem dX6_star_52 : decode cX6_star 52 = .ok (.iconst 1, 1) := by decide +kernel
theorem dX6_star_53 : decode cX6_star 53 = .ok (.isub, 1) := by decide +kernel
theorem dX6_star_54 : decode cX6_star 54 = .ok (.ireturn, 1) := by decide +kernel
theorem dX6_of_0 : decode cX6_of 0 = .ok (.aload_n 0, 1) := by decide +kernel
theorem dX6_of_1 : decode cX6_of 1 = .ok (.iload_n 1, 1) := by decide +kernel
theorem dX6_of_2 : decode cX6_of 2 = .ok (.invokevirtual 101, 3) := by decide +kernel
theorem dX6_of_5 : decode cX6_of 5 = .ok (.ifCond .eq 13, 3) := by decide +kernel
theorem dX6_of_8 : decode cX6_of 8 = .ok (.iload_n 2, 1) := by decide +kernel
theorem dX6_of_9 : decode cX6_of 9 = .ok (.iconst 0, 1) := by decide +kernel
theorem dX6_of_10 : decode cX6_of 10 = .ok (.bipush 6, 2) := by decide +kernel
theorem dX6_of_12 : decode cX6_of 12 = .ok (.invokestatic 54, 3) := by decide +kernel
theorem dX6_of_15 : decode cX6_of 15 = .ok (.ifCond .ne 9, 3) := by decide +kernel
theorem dX6_of_18 : decode cX6_of 18 = .ok (.aload_n 0, 1) := by decide +kernel
theorem dX6_of_19 : decode cX6_of 19 = .ok (.iconst 0, 1) := by decide +kernel
theorem dX6_of_20 : decode cX6_of 20 = .ok (.invokevirtual 94, 3) := by decide +kernel
theorem dX6_of_23 : decode cX6_of 23 = .ok (.ireturn, 1) := by decide +kernel
theorem dX6_of_24 : decode cX6_of 24 = .ok (.iload_n 2, 1) := by decide +kernel
theorem dX6_of_25 : decode cX6_of 25 = .ok (.iconst 4, 1) := by decide +kernel
theorem dX6_of_26 : decode cX6_of 26 = .ok (.if_icmp .ge 12, 3) := by decide +kernel
theorem dX6_of_29 : decode cX6_of 29 = .ok (.aload_n 0, 1) := by decide +kernel
theorem dX6_of_30 : decode cX6_of 30 = .ok (.iload_n 1, 1) := by decide +kernel
theorem dX6_of_31 : decode cX6_of 31 = .ok (.iload_n 2, 1) := by decide +kernel
theorem dX6_of_32 : decode cX6_of 32 = .ok (.invokevirtual 58, 3) := by decide +kernel
theorem dX6_of_35 : decode cX6_of 35 = .ok (.goto 42, 3) := by decide +kernel
theorem dX6_of_38 : decode cX6_of 38 = .ok (.iload_n 2, 1) := by decide +kernel
theorem dX6_of_39 : decode cX6_of 39 = .ok (.iconst 4, 1) := by decide +kernel
theorem dX6_of_40 : decode cX6_of 40 = .ok (.if_icmp .ne 11, 3) := by decide +kernel
theorem dX6_of_43 : decode cX6_of 43 = .ok (.aload_n 0, 1) := by decide +kernel
theorem dX6_of_44 : decode cX6_of 44 = .ok (.iload_n 1, 1) := by decide +kernel
theorem dX6_of_45 : decode cX6_of 45 = .ok (.invokevirtual 74, 3) := by decide +kernel
theorem dX6_of_48 : decode cX6_of 48 = .ok (.goto 29, 3) := by decide +kernel
theorem dX6_of_51 : decode cX6_of 51 = .ok (.iload_n 2, 1) := by decide +kernel
theorem dX6_of_52 : decode cX6_of 52 = .ok (.iconst 5, 1) := by decide +kernel
theorem dX6_of_53 : decode cX6_of 53 = .ok (.if_icmp .ne 11, 3) := by decide +kernel
theorem dX6_of_56 : decode cX6_of 56 = .ok (.aload_n 0, 1) := by decide +kernel
theorem dX6_of_57 : decode cX6_of 57 = .ok (.iload_n 1, 1) := by decide +kernel
theorem dX6_of_58 : decode cX6_of 58 = .ok (.invokevirtual 62, 3) := by decide +kernel
theorem dX6_of_61 : decode cX6_of 61 = .ok (.goto 16, 3) := by decide +kernel
theorem dX6_of_64 : decode cX6_of 64 = .ok (.aload_n 0, 1) := by decide +kernel
theorem dX6_of_65 : decode cX6_of 65 = .ok (.iload_n 1, 1) := by decide +kernel
theorem dX6_of_66 : decode cX6_of 66 = .ok (.invokevirtual 66, 3) := by decide +kernel
theorem dX6_of_69 : decode cX6_of 69 = .ok (.ifCond .eq 7, 3) := by decide +kernel
theorem dX6_of_72 : decode cX6_of 72 = .ok (.iconst 1, 1) := by decide +kernel
theorem dX6_of_73 : decode cX6_of 73 = .ok (.goto 4, 3) := by decide +kernel
theorem dX6_of_76 : decode cX6_of 76 = .ok (.iconst 0, 1) := by decide +kernel
theorem dX6_of_77 : decode cX6_of 77 = .ok (.ireturn, 1) := by decide +kernel
theorem dX6_change_0 : decode cX6_change 0 = .ok (.aload_n 0, 1) := by decide +kernel
theorem dX6_change_1 : decode cX6_change 1 = .ok (.iload_n 1, 1) := by decide +kernel
theorem dX6_change_2 : decode cX6_change 2 = .ok (.invokevirtual 101, 3) := by decide +kernel
theorem dX6_change_5 : decode cX6_change 5 = .ok (.ifCond .eq 31, 3) := by decide +kernel
theorem dX6_change_8 : decode cX6_change 8 = .ok (.iload_n 2, 1) := by decide +kernel
theorem dX6_change_9 : decode cX6_change 9 = .ok (.iconst 0, 1) := by decide +kernel
theorem dX6_change_10 : decode cX6_change 10 = .ok (.iconst 3, 1) := by decide +kernel
theorem dX6_change_11 : decode cX6_change 11 = .ok (.invokestatic 54, 3) := by decide +kernel
theorem dX6_change_14 : decode cX6_change 14 = .ok (.ifCond .eq 22, 3) := by decide +kernel
theorem dX6_change_17 : decode cX6_change 17 = .ok (.iload_n 3, 1) := by decide +kernel
theorem dX6_change_18 : decode cX6_change 18 = .ok (.iconst 0, 1) := by decide +kernel
theorem dX6_change_19 : decode cX6_change 19 = .ok (.iload_n 2, 1) := by decide +kernel
theorem dX6_change_20 : decode cX6_change 20 = .ok (.ifCond .ne 8, 3) := by decide +kernel
theorem dX6_change_23 : decode cX6_change 23 = .ok (.bipush 6, 2) := by decide +kernel
theorem dX6_change_25 : decode cX6_change 25 = .ok (.goto 5, 3) := by decide +kernel
theorem dX6_change_28 : decode cX6_change 28 = .ok (.bipush 99, 2) := by decide +kernel
theorem dX6_change_30 : decode cX6_change 30 = .ok (.invokestatic 54, 3) := by decide +kernel
theorem dX6_change_33 : decode cX6_change 33 = .ok (.ifCond .ne 9, 3) := by decide +kernel
theorem dX6_change_36 : decode cX6_change 36 = .ok (.aload_n 0, 1) := by decide +kernel
theorem dX6_change_37 : decode cX6_change 37 = .ok (.iconst 0, 1) := by decide +kernel
theorem dX6_change_38 : decode cX6_change 38 = .ok (.invokevirtual 94, 3) := by decide +kernel
theorem dX6_change_41 : decode cX6_change 41 = .ok (.ireturn, 1) := by decide +kernel
theorem dX6_change_42 : decode cX6_change 42 = .ok (.aload_n 0, 1) := by decide +kernel
theorem dX6_change_43 : decode cX6_change 43 = .ok (.iload_n 1, 1) := by decide +kernel
theorem dX6_change_44 : decode cX6_change 44 = .ok (.iload_n 2, 1) := by decide +kernel
theorem dX6_change_45 : decode cX6_change 45 = .ok (.invokevirtual 58, 3) := by decide +kernel
theorem dX6_change_48 : decode cX6_change 48 = .ok (.istore 4, 2) := by decide +kernel
theorem dX6_change_50 : decode cX6_change 50 = .ok (.aload_n 0, 1) := by decide +kernel
theorem dX6_change_51 : decode cX6_change 51 = .ok (.iload_n 1, 1) := by decide +kernel
theorem dX6_change_52 : decode cX6_change 52 = .ok (.iload_n 2, 1) := by decide +kernel
theorem dX6_change_53 : decode cX6_change 53 = .ok (.iload_n 3, 1) := by decide +kernel
theorem dX6_change_54 : decode cX6_change 54 = .ok (.invokevirtual 80, 3) := by decide +kernel
theorem dX6_change_57 : decode cX6_change 57 = .ok (.iload 4, 2) := by decide +kernel
theorem dX6_change_59 : decode cX6_change 59 = .ok (.ireturn, 1) := by decide +kernel
theorem dX6_crew_0 : decode cX6_crew 0 = .ok (.iload_n 1, 1) := by decide +kernel
theorem dX6_crew_1 : decode cX6_crew 1 = .ok (.invokestatic 104, 3) := by decide +kernel
theorem dX6_crew_4 : decode cX6_crew 4 = .ok (.ifCond .eq 32, 3) := by decide +kernel
theorem dX6_crew_7 : decode cX6_crew 7 = .ok (.iload_n 2, 1) := by decide +kernel
theorem dX6_crew_8 : decode cX6_crew 8 = .ok (.iconst 0, 1) := by decide +kernel
theorem dX6_crew_9 : decode cX6_crew 9 = .ok (.iconst 1, 1) := by decide +kernel
theorem dX6_crew_10 : decode cX6_crew 10 = .ok (.invokestatic 54, 3) := by decide +kernel
theorem dX6_crew_13 : decode cX6_crew 13 = .ok (.ifCond .eq 23, 3) := by decide +kernel
theorem dX6_crew_16 : decode cX6_crew 16 = .ok (.iload_n 3, 1) := by decide +kernel
theorem dX6_crew_17 : decode cX6_crew 17 = .ok (.iconst 0, 1) := by decide +kernel
theorem dX6_crew_18 : decode cX6_crew 18 = .ok (.iload_n 2, 1) := by decide +kernel
theorem dX6_crew_19 : decode cX6_crew 19 = .ok (.ifCond .ne 8, 3) := by decide +kernel
theorem dX6_crew_22 : decode cX6_crew 22 = .ok (.bipush 99, 2) := by decide +kernel
theorem dX6_crew_24 : decode cX6_crew 24 = .ok (.goto 6, 3) := by decide +kernel
theorem dX6_crew_27 : decode cX6_crew 27 = .ok (.sipush 999, 3) := by decide +kernel
theorem dX6_crew_30 : decode cX6_crew 30 = .ok (.invokestatic 54, 3) := by decide +kernel
theorem dX6_crew_33 : decode cX6_crew 33 = .ok (.ifCond .ne 9, 3) := by decide +kernel
theorem dX6_crew_36 : decode cX6_crew 36 = .ok (.aload_n 0, 1) := by decide +kernel
theorem dX6_crew_37 : decode cX6_crew 37 = .ok (.iconst 0, 1) := by decide +kernel
theorem dX6_crew_38 : decode cX6_crew 38 = .ok (.invokevirtual 94, 3) := by decide +kernel
theorem dX6_crew_41 : decode cX6_crew 41 = .ok (.ireturn, 1) := by decide +kernel
theorem dX6_crew_42 : decode cX6_crew 42 = .ok (.aload_n 0, 1) := by decide +kernel
theorem dX6_crew_43 : decode cX6_crew 43 = .ok (.getfield 9, 3) := by decide +kernel
theorem dX6_crew_46 : decode cX6_crew 46 = .ok (.bipush 8, 2) := by decide +kernel
theorem dX6_crew_48 : decode cX6_crew 48 = .ok (.iconst 2, 1) := by decide +kernel
theorem dX6_crew_49 : decode cX6_crew 49 = .ok (.iload_n 1, 1) := by decide +kernel
theorem dX6_crew_50 : decode cX6_crew 50 = .ok (.imul, 1) := by decide +kernel
theorem dX6_crew_51 : decode cX6_crew 51 = .ok (.iadd, 1) := by decide +kernel
theorem dX6_crew_52 : decode cX6_crew 52 = .ok (.iload_n 2, 1) := by decide +kernel
theorem dX6_crew_53 : decode cX6_crew 53 = .ok (.iadd, 1) := by decide +kernel
theorem dX6_crew_54 : decode cX6_crew 54 = .ok (.iaload, 1) := by decide +kernel
theorem dX6_crew_55 : decode cX6_crew 55 = .ok (.istore 4, 2) := by decide +kernel
theorem dX6_crew_57 : decode cX6_crew 57 = .ok (.aload_n 0, 1) := by decide +kernel
theorem dX6_crew_58 : decode cX6_crew 58 = .ok (.getfield 9, 3) := by decide +kernel
theorem dX6_crew_61 : decode cX6_crew 61 = .ok (.bipush 8, 2) := by decide +kernel
theorem dX6_crew_63 : decode cX6_crew 63 = .ok (.iconst 2, 1) := by decide +kernel
theorem dX6_crew_64 : decode cX6_crew 64 = .ok (.iload_n 1, 1) := by decide +kernel
theorem dX6_crew_65 : decode cX6_crew 65 = .ok (.imul, 1) := by decide +kernel
theorem dX6_crew_66 : decode cX6_crew 66 = .ok (.iadd, 1) := by decide +kernel
theorem dX6_crew_67 : decode cX6_crew 67 = .ok (.iload_n 2, 1) := by decide +kernel
theorem dX6_crew_68 : decode cX6_crew 68 = .ok (.iadd, 1) := by decide +kernel
theorem dX6_crew_69 : decode cX6_crew 69 = .ok (.iload_n 3, 1) := by decide +kernel
theorem dX6_crew_70 : decode cX6_crew 70 = .ok (.iastore, 1) := by decide +kernel
theorem dX6_crew_71 : decode cX6_crew 71 = .ok (.iload 4, 2) := by decide +kernel
theorem dX6_crew_73 : decode cX6_crew 73 = .ok (.ireturn, 1) := by decide +kernel
theorem dX6_crewOf_0 : decode cX6_crewOf 0 = .ok (.iload_n 1, 1) := by decide +kernel
theorem dX6_crewOf_1 : decode cX6_crewOf 1 = .ok (.invokestatic 104, 3) := by decide +kernel
theorem dX6_crewOf_4 : decode cX6_crewOf 4 = .ok (.ifCond .eq 28, 3) := by decide +kernel
theorem dX6_crewOf_7 : decode cX6_crewOf 7 = .ok (.iload_n 2, 1) := by decide +kernel
theorem dX6_crewOf_8 : decode cX6_crewOf 8 = .ok (.iconst 0, 1) := by decide +kernel
theorem dX6_crewOf_9 : decode cX6_crewOf 9 = .ok (.iconst 1, 1) := by decide +kernel
theorem dX6_crewOf_10 : decode cX6_crewOf 10 = .ok (.invokestatic 54, 3) := by decide +kernel
theorem dX6_crewOf_13 : decode cX6_crewOf 13 = .ok (.ifCond .eq 19, 3) := by decide +kernel
theorem dX6_crewOf_16 : decode cX6_crewOf 16 = .ok (.aload_n 0, 1) := by decide +kernel
theorem dX6_crewOf_17 : decode cX6_crewOf 17 = .ok (.getfield 9, 3) := by decide +kernel
theorem dX6_crewOf_20 : decode cX6_crewOf 20 = .ok (.bipush 8, 2) := by decide +kernel
theorem dX6_crewOf_22 : decode cX6_crewOf 22 = .ok (.iconst 2, 1) := by decide +kernel
theorem dX6_crewOf_23 : decode cX6_crewOf 23 = .ok (.iload_n 1, 1) := by decide +kernel
theorem dX6_crewOf_24 : decode cX6_crewOf 24 = .ok (.imul, 1) := by decide +kernel
theorem dX6_crewOf_25 : decode cX6_crewOf 25 = .ok (.iadd, 1) := by decide +kernel
theorem dX6_crewOf_26 : decode cX6_crewOf 26 = .ok (.iload_n 2, 1) := by decide +kernel
theorem dX6_crewOf_27 : decode cX6_crewOf 27 = .ok (.iadd, 1) := by decide +kernel
theorem dX6_crewOf_28 : decode cX6_crewOf 28 = .ok (.iaload, 1) := by decide +kernel
theorem dX6_crewOf_29 : decode cX6_crewOf 29 = .ok (.goto 8, 3) := by decide +kernel
theorem dX6_crewOf_32 : decode cX6_crewOf 32 = .ok (.aload_n 0, 1) := by decide +kernel
theorem dX6_crewOf_33 : decode cX6_crewOf 33 = .ok (.iconst 0, 1) := by decide +kernel
theorem dX6_crewOf_34 : decode cX6_crewOf 34 = .ok (.invokevirtual 94, 3) := by decide +kernel
theorem dX6_crewOf_37 : decode cX6_crewOf 37 = .ok (.ireturn, 1) := by decide +kernel
theorem dX6_greatest_0 : decode cX6_greatest 0 = .ok (.iload_n 0, 1) := by decide +kernel
theorem dX6_greatest_1 : decode cX6_greatest 1 = .ok (.iconst 2, 1) := by decide +kernel
theorem dX6_greatest_2 : decode cX6_greatest 2 = .ok (.if_icmp .ge 8, 3) := by decide +kernel
theorem dX6_greatest_5 : decode cX6_greatest 5 = .ok (.bipush 9, 2) := by decide +kernel
theorem dX6_greatest_7 : decode cX6_greatest 7 = .ok (.goto 16, 3) := by decide +kernel
theorem dX6_greatest_10 : decode cX6_greatest 10 = .ok (.iload_n 0, 1) := by decide +kernel
theorem dX6_greatest_11 : decode cX6_greatest 11 = .ok (.iconst 2, 1) := by decide +kernel
theorem dX6_greatest_12 : decode cX6_greatest 12 = .ok (.if_icmp .ne 8, 3) := by decide +kernel
theorem dX6_greatest_15 : decode cX6_greatest 15 = .ok (.bipush 99, 2) := by decide +kernel
theorem dX6_greatest_17 : decode cX6_greatest 17 = .ok (.goto 6, 3) := by decide +kernel
theorem dX6_greatest_20 : decode cX6_greatest 20 = .ok (.sipush 9999, 3) := by decide +kernel
theorem dX6_greatest_23 : decode cX6_greatest 23 = .ok (.ireturn, 1) := by decide +kernel
theorem dX6_set_0 : decode cX6_set 0 = .ok (.iload_n 1, 1) := by decide +kernel
theorem dX6_set_1 : decode cX6_set 1 = .ok (.iconst 0, 1) := by decide +kernel
theorem dX6_set_2 : decode cX6_set 2 = .ok (.iconst 3, 1) := by decide +kernel
theorem dX6_set_3 : decode cX6_set 3 = .ok (.invokestatic 54, 3) := by decide +kernel
theorem dX6_set_6 : decode cX6_set 6 = .ok (.ifCond .eq 15, 3) := by decide +kernel
theorem dX6_set_9 : decode cX6_set 9 = .ok (.iload_n 2, 1) := by decide +kernel
theorem dX6_set_10 : decode cX6_set 10 = .ok (.iconst 0, 1) := by decide +kernel
theorem dX6_set_11 : decode cX6_set 11 = .ok (.iload_n 1, 1) := by decide +kernel
theorem dX6_set_12 : decode cX6_set 12 = .ok (.invokestatic 107, 3) := by decide +kernel
theorem dX6_set_15 : decode cX6_set 15 = .ok (.invokestatic 54, 3) := by decide +kernel
theorem dX6_set_18 : decode cX6_set 18 = .ok (.ifCond .ne 9, 3) := by decide +kernel
theorem dX6_set_21 : decode cX6_set 21 = .ok (.aload_n 0, 1) := by decide +kernel
theorem dX6_set_22 : decode cX6_set 22 = .ok (.iconst 0, 1) := by decide +kernel
theorem dX6_set_23 : decode cX6_set 23 = .ok (.invokevirtual 94, 3) := by decide +kernel
theorem dX6_set_26 : decode cX6_set 26 = .ok (.ireturn, 1) := by decide +kernel
theorem dX6_set_27 : decode cX6_set 27 = .ok (.aload_n 0, 1) := by decide +kernel
theorem dX6_set_28 : decode cX6_set 28 = .ok (.getfield 9, 3) := by decide +kernel
theorem dX6_set_31 : decode cX6_set 31 = .ok (.iconst 4, 1) := by decide +kernel
theorem dX6_set_32 : decode cX6_set 32 = .ok (.iload_n 1, 1) := by decide +kernel
theorem dX6_set_33 : decode cX6_set 33 = .ok (.iadd, 1) := by decide +kernel
theorem dX6_set_34 : decode cX6_set 34 = .ok (.iaload, 1) := by decide +kernel
theorem dX6_set_35 : decode cX6_set 35 = .ok (.istore_n 3, 1) := by decide +kernel
theorem dX6_set_36 : decode cX6_set 36 = .ok (.aload_n 0, 1) := by decide +kernel
theorem dX6_set_37 : decode cX6_set 37 = .ok (.getfield 9, 3) := by decide +kernel
theorem dX6_set_40 : decode cX6_set 40 = .ok (.iconst 4, 1) := by decide +kernel
theorem dX6_set_41 : decode cX6_set 41 = .ok (.iload_n 1, 1) := by decide +kernel
theorem dX6_set_42 : decode cX6_set 42 = .ok (.iadd, 1) := by decide +kernel
theorem dX6_set_43 : decode cX6_set 43 = .ok (.iload_n 2, 1) := by decide +kernel
theorem dX6_set_44 : decode cX6_set 44 = .ok (.iastore, 1) := by decide +kernel
theorem dX6_set_45 : decode cX6_set 45 = .ok (.iload_n 3, 1) := by decide +kernel
theorem dX6_set_46 : decode cX6_set 46 = .ok (.ireturn, 1) := by decide +kernel
theorem dX6_apartOf_0 : decode cX6_apartOf 0 = .ok (.iload_n 0, 1) := by decide +kernel
theorem dX6_apartOf_1 : decode cX6_apartOf 1 = .ok (.iload_n 1, 1) := by decide +kernel
theorem dX6_apartOf_2 : decode cX6_apartOf 2 = .ok (.isub, 1) := by decide +kernel
theorem dX6_apartOf_3 : decode cX6_apartOf 3 = .ok (.bipush 100, 2) := by decide +kernel
theorem dX6_apartOf_5 : decode cX6_apartOf 5 = .ok (.iadd, 1) := by decide +kernel
theorem dX6_apartOf_6 : decode cX6_apartOf 6 = .ok (.bipush 100, 2) := by decide +kernel
theorem dX6_apartOf_8 : decode cX6_apartOf 8 = .ok (.irem, 1) := by decide +kernel
theorem dX6_apartOf_9 : decode cX6_apartOf 9 = .ok (.istore_n 2, 1) := by decide +kernel
theorem dX6_apartOf_10 : decode cX6_apartOf 10 = .ok (.iload_n 2, 1) := by decide +kernel
theorem dX6_apartOf_11 : decode cX6_apartOf 11 = .ok (.bipush 100, 2) := by decide +kernel
theorem dX6_apartOf_13 : decode cX6_apartOf 13 = .ok (.iload_n 2, 1) := by decide +kernel
theorem dX6_apartOf_14 : decode cX6_apartOf 14 = .ok (.isub, 1) := by decide +kernel
theorem dX6_apartOf_15 : decode cX6_apartOf 15 = .ok (.invokestatic 85, 3) := by decide +kernel
theorem dX6_apartOf_18 : decode cX6_apartOf 18 = .ok (.ireturn, 1) := by decide +kernel
theorem dX6_apart_0 : decode cX6_apart 0 = .ok (.iload_n 1, 1) := by decide +kernel
theorem dX6_apart_1 : decode cX6_apart 1 = .ok (.invokestatic 91, 3) := by decide +kernel
theorem dX6_apart_4 : decode cX6_apart 4 = .ok (.ifCond .eq 18, 3) := by decide +kernel
theorem dX6_apart_7 : decode cX6_apart 7 = .ok (.iload_n 2, 1) := by decide +kernel
theorem dX6_apart_8 : decode cX6_apart 8 = .ok (.invokestatic 91, 3) := by decide +kernel
theorem dX6_apart_11 : decode cX6_apart 11 = .ok (.ifCond .eq 11, 3) := by decide +kernel
theorem dX6_apart_14 : decode cX6_apart 14 = .ok (.iload_n 1, 1) := by decide +kernel
theorem dX6_apart_15 : decode cX6_apart 15 = .ok (.iload_n 2, 1) := by decide +kernel
theorem dX6_apart_16 : decode cX6_apart 16 = .ok (.invokestatic 110, 3) := by decide +kernel
theorem dX6_apart_19 : decode cX6_apart 19 = .ok (.goto 8, 3) := by decide +kernel
theorem dX6_apart_22 : decode cX6_apart 22 = .ok (.aload_n 0, 1) := by decide +kernel
theorem dX6_apart_23 : decode cX6_apart 23 = .ok (.iconst 0, 1) := by decide +kernel
theorem dX6_apart_24 : decode cX6_apart 24 = .ok (.invokevirtual 94, 3) := by decide +kernel
theorem dX6_apart_27 : decode cX6_apart 27 = .ok (.ireturn, 1) := by decide +kernel
theorem dX6_go_0 : decode cX6_go 0 = .ok (.iload_n 1, 1) := by decide +kernel
theorem dX6_go_1 : decode cX6_go 1 = .ok (.iconst 1, 1) := by decide +kernel
theorem dX6_go_2 : decode cX6_go 2 = .ok (.bipush 60, 2) := by decide +kernel
theorem dX6_go_4 : decode cX6_go 4 = .ok (.invokestatic 54, 3) := by decide +kernel
theorem dX6_go_7 : decode cX6_go 7 = .ok (.ifCond .ne 9, 3) := by decide +kernel
theorem dX6_go_10 : decode cX6_go 10 = .ok (.aload_n 0, 1) := by decide +kernel
theorem dX6_go_11 : decode cX6_go 11 = .ok (.iconst 0, 1) := by decide +kernel
theorem dX6_go_12 : decode cX6_go 12 = .ok (.invokevirtual 94, 3) := by decide +kernel
theorem dX6_go_15 : decode cX6_go 15 = .ok (.ireturn, 1) := by decide +kernel
theorem dX6_go_16 : decode cX6_go 16 = .ok (.aload_n 0, 1) := by decide +kernel
theorem dX6_go_17 : decode cX6_go 17 = .ok (.getfield 9, 3) := by decide +kernel
theorem dX6_go_20 : decode cX6_go 20 = .ok (.iconst 0, 1) := by decide +kernel
theorem dX6_go_21 : decode cX6_go 21 = .ok (.iaload, 1) := by decide +kernel
theorem dX6_go_22 : decode cX6_go 22 = .ok (.iload_n 1, 1) := by decide +kernel
theorem dX6_go_23 : decode cX6_go 23 = .ok (.iadd, 1) := by decide +kernel
theorem dX6_go_24 : decode cX6_go 24 = .ok (.ldc 84, 2) := by decide +kernel
theorem dX6_go_26 : decode cX6_go 26 = .ok (.if_icmp .le 9, 3) := by decide +kernel
theorem dX6_go_29 : decode cX6_go 29 = .ok (.aload_n 0, 1) := by decide +kernel
theorem dX6_go_30 : decode cX6_go 30 = .ok (.iconst 4, 1) := by decide +kernel
theorem dX6_go_31 : decode cX6_go 31 = .ok (.invokevirtual 94, 3) := by decide +kernel
theorem dX6_go_34 : decode cX6_go 34 = .ok (.ireturn, 1) := by decide +kernel
theorem dX6_go_35 : decode cX6_go 35 = .ok (.aload_n 0, 1) := by decide +kernel
theorem dX6_go_36 : decode cX6_go 36 = .ok (.iload_n 1, 1) := by decide +kernel
theorem dX6_go_37 : decode cX6_go 37 = .ok (.invokevirtual 113, 3) := by decide +kernel
theorem dX6_go_40 : decode cX6_go 40 = .ok (.aload_n 0, 1) := by decide +kernel
theorem dX6_go_41 : decode cX6_go 41 = .ok (.invokevirtual 117, 3) := by decide +kernel
theorem dX6_go_44 : decode cX6_go 44 = .ok (.invokestatic 121, 3) := by decide +kernel
theorem dX6_go_47 : decode cX6_go 47 = .ok (.ireturn, 1) := by decide +kernel
theorem dX6_now_0 : decode cX6_now 0 = .ok (.iload_n 1, 1) := by decide +kernel
theorem dX6_now_1 : decode cX6_now 1 = .ok (.tableswitch 91 0 6 #[43, 50, 55, 60, 69, 77, 84], 43) := by decide +kernel
theorem dX6_now_44 : decode cX6_now 44 = .ok (.aload_n 0, 1) := by decide +kernel
theorem dX6_now_45 : decode cX6_now 45 = .ok (.getfield 9, 3) := by decide +kernel
theorem dX6_now_48 : decode cX6_now 48 = .ok (.iconst 0, 1) := by decide +kernel
theorem dX6_now_49 : decode cX6_now 49 = .ok (.iaload, 1) := by decide +kernel
theorem dX6_now_50 : decode cX6_now 50 = .ok (.ireturn, 1) := by decide +kernel
theorem dX6_now_51 : decode cX6_now 51 = .ok (.aload_n 0, 1) := by decide +kernel
theorem dX6_now_52 : decode cX6_now 52 = .ok (.invokevirtual 117, 3) := by decide +kernel
theorem dX6_now_55 : decode cX6_now 55 = .ok (.ireturn, 1) := by decide +kernel
theorem dX6_now_56 : decode cX6_now 56 = .ok (.aload_n 0, 1) := by decide +kernel
theorem dX6_now_57 : decode cX6_now 57 = .ok (.invokevirtual 124, 3) := by decide +kernel
theorem dX6_now_60 : decode cX6_now 60 = .ok (.ireturn, 1) := by decide +kernel
theorem dX6_now_61 : decode cX6_now 61 = .ok (.aload_n 0, 1) := by decide +kernel
theorem dX6_now_62 : decode cX6_now 62 = .ok (.aload_n 0, 1) := by decide +kernel
theorem dX6_now_63 : decode cX6_now 63 = .ok (.invokevirtual 117, 3) := by decide +kernel
theorem dX6_now_66 : decode cX6_now 66 = .ok (.invokevirtual 127, 3) := by decide +kernel
theorem dX6_now_69 : decode cX6_now 69 = .ok (.ireturn, 1) := by decide +kernel
theorem dX6_now_70 : decode cX6_now 70 = .ok (.aload_n 0, 1) := by decide +kernel
theorem dX6_now_71 : decode cX6_now 71 = .ok (.getfield 9, 3) := by decide +kernel
theorem dX6_now_74 : decode cX6_now 74 = .ok (.bipush 7, 2) := by decide +kernel
theorem dX6_now_76 : decode cX6_now 76 = .ok (.iaload, 1) := by decide +kernel
theorem dX6_now_77 : decode cX6_now 77 = .ok (.ireturn, 1) := by decide +kernel
theorem dX6_now_78 : decode cX6_now 78 = .ok (.aload_n 0, 1) := by decide +kernel
theorem dX6_now_79 : decode cX6_now 79 = .ok (.getfield 9, 3) := by decide +kernel
theorem dX6_now_82 : decode cX6_now 82 = .ok (.iconst 4, 1) := by decide +kernel
theorem dX6_now_83 : decode cX6_now 83 = .ok (.iaload, 1) := by decide +kernel
theorem dX6_now_84 : decode cX6_now 84 = .ok (.ireturn, 1) := by decide +kernel
theorem dX6_now_85 : decode cX6_now 85 = .ok (.aload_n 0, 1) := by decide +kernel
theorem dX6_now_86 : decode cX6_now 86 = .ok (.getfield 9, 3) := by decide +kernel
theorem dX6_now_89 : decode cX6_now 89 = .ok (.iconst 5, 1) := by decide +kernel
theorem dX6_now_90 : decode cX6_now 90 = .ok (.iaload, 1) := by decide +kernel
theorem dX6_now_91 : decode cX6_now 91 = .ok (.ireturn, 1) := by decide +kernel
theorem dX6_now_92 : decode cX6_now 92 = .ok (.aload_n 0, 1) := by decide +kernel
theorem dX6_now_93 : decode cX6_now 93 = .ok (.iconst 0, 1) := by decide +kernel
theorem dX6_now_94 : decode cX6_now 94 = .ok (.invokevirtual 94, 3) := by decide +kernel
theorem dX6_now_97 : decode cX6_now 97 = .ok (.ireturn, 1) := by decide +kernel
theorem dX6_mends_0 : decode cX6_mends 0 = .ok (.iload_n 1, 1) := by decide +kernel
theorem dX6_mends_1 : decode cX6_mends 1 = .ok (.invokestatic 104, 3) := by decide +kernel
theorem dX6_mends_4 : decode cX6_mends 4 = .ok (.ifCond .eq 11, 3) := by decide +kernel
theorem dX6_mends_7 : decode cX6_mends 7 = .ok (.aload_n 0, 1) := by decide +kernel
theorem dX6_mends_8 : decode cX6_mends 8 = .ok (.iload_n 2, 1) := by decide +kernel
theorem dX6_mends_9 : decode cX6_mends 9 = .ok (.invokevirtual 101, 3) := by decide +kernel
theorem dX6_mends_12 : decode cX6_mends 12 = .ok (.ifCond .ne 9, 3) := by decide +kernel
theorem dX6_mends_15 : decode cX6_mends 15 = .ok (.aload_n 0, 1) := by decide +kernel
theorem dX6_mends_16 : decode cX6_mends 16 = .ok (.iconst 0, 1) := by decide +kernel
theorem dX6_mends_17 : decode cX6_mends 17 = .ok (.invokevirtual 94, 3) := by decide +kernel
theorem dX6_mends_20 : decode cX6_mends 20 = .ok (.ireturn, 1) := by decide +kernel
theorem dX6_mends_21 : decode cX6_mends 21 = .ok (.aload_n 0, 1) := by decide +kernel
theorem dX6_mends_22 : decode cX6_mends 22 = .ok (.getfield 9, 3) := by decide +kernel
theorem dX6_mends_25 : decode cX6_mends 25 = .ok (.bipush 7, 2) := by decide +kernel
theorem dX6_mends_27 : decode cX6_mends 27 = .ok (.iaload, 1) := by decide +kernel
theorem dX6_mends_28 : decode cX6_mends 28 = .ok (.ifCond .ne 9, 3) := by decide +kernel
theorem dX6_mends_31 : decode cX6_mends 31 = .ok (.aload_n 0, 1) := by decide +kernel
theorem dX6_mends_32 : decode cX6_mends 32 = .ok (.iconst 4, 1) := by decide +kernel
theorem dX6_mends_33 : decode cX6_mends 33 = .ok (.invokevirtual 94, 3) := by decide +kernel
theorem dX6_mends_36 : decode cX6_mends 36 = .ok (.ireturn, 1) := by decide +kernel
theorem dX6_mends_37 : decode cX6_mends 37 = .ok (.aload_n 0, 1) := by decide +kernel
theorem dX6_mends_38 : decode cX6_mends 38 = .ok (.iload_n 1, 1) := by decide +kernel
theorem dX6_mends_39 : decode cX6_mends 39 = .ok (.invokevirtual 130, 3) := by decide +kernel
theorem dX6_mends_42 : decode cX6_mends 42 = .ok (.aload_n 0, 1) := by decide +kernel
theorem dX6_mends_43 : decode cX6_mends 43 = .ok (.iload_n 2, 1) := by decide +kernel
theorem dX6_mends_44 : decode cX6_mends 44 = .ok (.iconst 1, 1) := by decide +kernel
theorem dX6_mends_45 : decode cX6_mends 45 = .ok (.invokevirtual 58, 3) := by decide +kernel
theorem dX6_mends_48 : decode cX6_mends 48 = .ok (.invokestatic 110, 3) := by decide +kernel
theorem dX6_mends_51 : decode cX6_mends 51 = .ok (.istore_n 3, 1) := by decide +kernel
theorem dX6_mends_52 : decode cX6_mends 52 = .ok (.aload_n 0, 1) := by decide +kernel
theorem dX6_mends_53 : decode cX6_mends 53 = .ok (.iload_n 2, 1) := by decide +kernel
theorem dX6_mends_54 : decode cX6_mends 54 = .ok (.iconst 2, 1) := by decide +kernel
theorem dX6_mends_55 : decode cX6_mends 55 = .ok (.bipush 99, 2) := by decide +kernel
theorem dX6_mends_57 : decode cX6_mends 57 = .ok (.invokevirtual 80, 3) := by decide +kernel
theorem dX6_mends_60 : decode cX6_mends 60 = .ok (.aload_n 0, 1) := by decide +kernel
theorem dX6_mends_61 : decode cX6_mends 61 = .ok (.getfield 9, 3) := by decide +kernel
theorem dX6_mends_64 : decode cX6_mends 64 = .ok (.bipush 7, 2) := by decide +kernel
theorem dX6_mends_66 : decode cX6_mends 66 = .ok (.dup2, 1) := by decide +kernel
theorem dX6_mends_67 : decode cX6_mends 67 = .ok (.iaload, 1) := by decide +kernel
theorem dX6_mends_68 : decode cX6_mends 68 = .ok (.iconst 1, 1) := by decide +kernel
theorem dX6_mends_69 : decode cX6_mends 69 = .ok (.isub, 1) := by decide +kernel
theorem dX6_mends_70 : decode cX6_mends 70 = .ok (.iastore, 1) := by decide +kernel
theorem dX6_mends_71 : decode cX6_mends 71 = .ok (.aload_n 0, 1) := by decide +kernel
theorem dX6_mends_72 : decode cX6_mends 72 = .ok (.getfield 9, 3) := by decide +kernel
theorem dX6_mends_75 : decode cX6_mends 75 = .ok (.bipush 8, 2) := by decide +kernel
theorem dX6_mends_77 : decode cX6_mends 77 = .ok (.iconst 2, 1) := by decide +kernel
theorem dX6_mends_78 : decode cX6_mends 78 = .ok (.iload_n 1, 1) := by decide +kernel
theorem dX6_mends_79 : decode cX6_mends 79 = .ok (.imul, 1) := by decide +kernel
theorem dX6_mends_80 : decode cX6_mends 80 = .ok (.iadd, 1) := by decide +kernel
theorem dX6_mends_81 : decode cX6_mends 81 = .ok (.aload_n 0, 1) := by decide +kernel
theorem dX6_mends_82 : decode cX6_mends 82 = .ok (.iload_n 2, 1) := by decide +kernel
theorem dX6_mends_83 : decode cX6_mends 83 = .ok (.iconst 1, 1) := by decide +kernel
theorem dX6_mends_84 : decode cX6_mends 84 = .ok (.invokevirtual 58, 3) := by decide +kernel
theorem dX6_mends_87 : decode cX6_mends 87 = .ok (.iastore, 1) := by decide +kernel
theorem dX6_mends_88 : decode cX6_mends 88 = .ok (.iload_n 3, 1) := by decide +kernel
theorem dX6_mends_89 : decode cX6_mends 89 = .ok (.ireturn, 1) := by decide +kernel
theorem dX6_ahead_0 : decode cX6_ahead 0 = .ok (.aload_n 0, 1) := by decide +kernel
theorem dX6_ahead_1 : decode cX6_ahead 1 = .ok (.iload_n 1, 1) := by decide +kernel
theorem dX6_ahead_2 : decode cX6_ahead 2 = .ok (.invokevirtual 101, 3) := by decide +kernel
theorem dX6_ahead_5 : decode cX6_ahead 5 = .ok (.ifCond .eq 14, 3) := by decide +kernel
theorem dX6_ahead_8 : decode cX6_ahead 8 = .ok (.iload_n 2, 1) := by decide +kernel
theorem dX6_ahead_9 : decode cX6_ahead 9 = .ok (.iconst 0, 1) := by decide +kernel
theorem dX6_ahead_10 : decode cX6_ahead 10 = .ok (.sipush 200, 3) := by decide +kernel
theorem dX6_ahead_13 : decode cX6_ahead 13 = .ok (.invokestatic 54, 3) := by decide +kernel
theorem dX6_ahead_16 : decode cX6_ahead 16 = .ok (.ifCond .ne 9, 3) := by decide +kernel
theorem dX6_ahead_19 : decode cX6_ahead 19 = .ok (.aload_n 0, 1) := by decide +kernel
theorem dX6_ahead_20 : decode cX6_ahead 20 = .ok (.iconst 0, 1) := by decide +kernel
theorem dX6_ahead_21 : decode cX6_ahead 21 = .ok (.invokevirtual 94, 3) := by decide +kernel
theorem dX6_ahead_24 : decode cX6_ahead 24 = .ok (.ireturn, 1) := by decide +kernel
theorem dX6_ahead_25 : decode cX6_ahead 25 = .ok (.aload_n 0, 1) := by decide +kernel
theorem dX6_ahead_26 : decode cX6_ahead 26 = .ok (.invokevirtual 133, 3) := by decide +kernel
theorem dX6_ahead_29 : decode cX6_ahead 29 = .ok (.aload_n 0, 1) := by decide +kernel
theorem dX6_ahead_30 : decode cX6_ahead 30 = .ok (.iload_n 2, 1) := by decide +kernel
theorem dX6_ahead_31 : decode cX6_ahead 31 = .ok (.invokevirtual 113, 3) := by decide +kernel
theorem dX6_ahead_34 : decode cX6_ahead 34 = .ok (.aload_n 0, 1) := by decide +kernel
theorem dX6_ahead_35 : decode cX6_ahead 35 = .ok (.iload_n 1, 1) := by decide +kernel
theorem dX6_ahead_36 : decode cX6_ahead 36 = .ok (.iconst 2, 1) := by decide +kernel
theorem dX6_ahead_37 : decode cX6_ahead 37 = .ok (.invokevirtual 58, 3) := by decide +kernel
theorem dX6_ahead_40 : decode cX6_ahead 40 = .ok (.istore_n 3, 1) := by decide +kernel
theorem dX6_ahead_41 : decode cX6_ahead 41 = .ok (.aload_n 0, 1) := by decide +kernel
theorem dX6_ahead_42 : decode cX6_ahead 42 = .ok (.invokevirtual 136, 3) := by decide +kernel
theorem dX6_ahead_45 : decode cX6_ahead 45 = .ok (.iload_n 3, 1) := by decide +kernel
theorem dX6_ahead_46 : decode cX6_ahead 46 = .ok (.ireturn, 1) := by decide +kernel
theorem dX6_lastsNow_0 : decode cX6_lastsNow 0 = .ok (.aload_n 0, 1) := by decide +kernel
theorem dX6_lastsNow_1 : decode cX6_lastsNow 1 = .ok (.invokevirtual 133, 3) := by decide +kernel
theorem dX6_lastsNow_4 : decode cX6_lastsNow 4 = .ok (.iconst 0, 1) := by decide +kernel
theorem dX6_lastsNow_5 : decode cX6_lastsNow 5 = .ok (.istore_n 2, 1) := by decide +kernel
theorem dX6_lastsNow_6 : decode cX6_lastsNow 6 = .ok (.iload_n 2, 1) := by decide +kernel
theorem dX6_lastsNow_7 : decode cX6_lastsNow 7 = .ok (.sipush 200, 3) := by decide +kernel
theorem dX6_lastsNow_10 : decode cX6_lastsNow 10 = .ok (.if_icmp .gt 21, 3) := by decide +kernel
theorem dX6_lastsNow_13 : decode cX6_lastsNow 13 = .ok (.aload_n 0, 1) := by decide +kernel
theorem dX6_lastsNow_14 : decode cX6_lastsNow 14 = .ok (.iload_n 1, 1) := by decide +kernel
theorem dX6_lastsNow_15 : decode cX6_lastsNow 15 = .ok (.invokevirtual 66, 3) := by decide +kernel
theorem dX6_lastsNow_18 : decode cX6_lastsNow 18 = .ok (.ifCond .eq 13, 3) := by decide +kernel
theorem dX6_lastsNow_21 : decode cX6_lastsNow 21 = .ok (.aload_n 0, 1) := by decide +kernel
theorem dX6_lastsNow_22 : decode cX6_lastsNow 22 = .ok (.invokevirtual 88, 3) := by decide +kernel
theorem dX6_lastsNow_25 : decode cX6_lastsNow 25 = .ok (.iinc 2 1, 3) := by decide +kernel
theorem dX6_lastsNow_28 : decode cX6_lastsNow 28 = .ok (.goto (-22), 3) := by decide +kernel
theorem dX6_lastsNow_31 : decode cX6_lastsNow 31 = .ok (.aload_n 0, 1) := by decide +kernel
theorem dX6_lastsNow_32 : decode cX6_lastsNow 32 = .ok (.invokevirtual 136, 3) := by decide +kernel
theorem dX6_lastsNow_35 : decode cX6_lastsNow 35 = .ok (.iload_n 2, 1) := by decide +kernel
theorem dX6_lastsNow_36 : decode cX6_lastsNow 36 = .ok (.ireturn, 1) := by decide +kernel
theorem dX6_lasts_0 : decode cX6_lasts 0 = .ok (.aload_n 0, 1) := by decide +kernel
theorem dX6_lasts_1 : decode cX6_lasts 1 = .ok (.iload_n 1, 1) := by decide +kernel
theorem dX6_lasts_2 : decode cX6_lasts 2 = .ok (.invokevirtual 101, 3) := by decide +kernel
theorem dX6_lasts_5 : decode cX6_lasts 5 = .ok (.ifCond .ne 9, 3) := by decide +kernel
theorem dX6_lasts_8 : decode cX6_lasts 8 = .ok (.aload_n 0, 1) := by decide +kernel
theorem dX6_lasts_9 : decode cX6_lasts 9 = .ok (.iconst 0, 1) := by decide +kernel
theorem dX6_lasts_10 : decode cX6_lasts 10 = .ok (.invokevirtual 94, 3) := by decide +kernel
theorem dX6_lasts_13 : decode cX6_lasts 13 = .ok (.ireturn, 1) := by decide +kernel
theorem dX6_lasts_14 : decode cX6_lasts 14 = .ok (.aload_n 0, 1) := by decide +kernel
theorem dX6_lasts_15 : decode cX6_lasts 15 = .ok (.iload_n 1, 1) := by decide +kernel
theorem dX6_lasts_16 : decode cX6_lasts 16 = .ok (.invokevirtual 139, 3) := by decide +kernel
theorem dX6_lasts_19 : decode cX6_lasts 19 = .ok (.istore_n 2, 1) := by decide +kernel
theorem dX6_lasts_20 : decode cX6_lasts 20 = .ok (.iload_n 2, 1) := by decide +kernel
theorem dX6_lasts_21 : decode cX6_lasts 21 = .ok (.sipush 200, 3) := by decide +kernel
theorem dX6_lasts_24 : decode cX6_lasts 24 = .ok (.if_icmp .le 11, 3) := by decide +kernel
theorem dX6_lasts_27 : decode cX6_lasts 27 = .ok (.aload_n 0, 1) := by decide +kernel
theorem dX6_lasts_28 : decode cX6_lasts 28 = .ok (.iconst 3, 1) := by decide +kernel
theorem dX6_lasts_29 : decode cX6_lasts 29 = .ok (.invokevirtual 94, 3) := by decide +kernel
theorem dX6_lasts_32 : decode cX6_lasts 32 = .ok (.goto 4, 3) := by decide +kernel
theorem dX6_lasts_35 : decode cX6_lasts 35 = .ok (.iload_n 2, 1) := by decide +kernel
theorem dX6_lasts_36 : decode cX6_lasts 36 = .ok (.ireturn, 1) := by decide +kernel
theorem dX6_shine_0 : decode cX6_shine 0 = .ok (.iload_n 1, 1) := by decide +kernel
theorem dX6_shine_1 : decode cX6_shine 1 = .ok (.iconst 0, 1) := by decide +kernel
theorem dX6_shine_2 : decode cX6_shine 2 = .ok (.sipush 200, 3) := by decide +kernel
theorem dX6_shine_5 : decode cX6_shine 5 = .ok (.invokestatic 54, 3) := by decide +kernel
theorem dX6_shine_8 : decode cX6_shine 8 = .ok (.ifCond .ne 9, 3) := by decide +kernel
theorem dX6_shine_11 : decode cX6_shine 11 = .ok (.aload_n 0, 1) := by decide +kernel
theorem dX6_shine_12 : decode cX6_shine 12 = .ok (.iconst 0, 1) := by decide +kernel
theorem dX6_shine_13 : decode cX6_shine 13 = .ok (.invokevirtual 94, 3) := by decide +kernel
theorem dX6_shine_16 : decode cX6_shine 16 = .ok (.ireturn, 1) := by decide +kernel
theorem dX6_shine_17 : decode cX6_shine 17 = .ok (.aload_n 0, 1) := by decide +kernel
theorem dX6_shine_18 : decode cX6_shine 18 = .ok (.invokevirtual 133, 3) := by decide +kernel
theorem dX6_shine_21 : decode cX6_shine 21 = .ok (.aload_n 0, 1) := by decide +kernel
theorem dX6_shine_22 : decode cX6_shine 22 = .ok (.iload_n 1, 1) := by decide +kernel
theorem dX6_shine_23 : decode cX6_shine 23 = .ok (.invokevirtual 113, 3) := by decide +kernel
theorem dX6_shine_26 : decode cX6_shine 26 = .ok (.aload_n 0, 1) := by decide +kernel
theorem dX6_shine_27 : decode cX6_shine 27 = .ok (.invokevirtual 117, 3) := by decide +kernel
theorem dX6_shine_30 : decode cX6_shine 30 = .ok (.istore_n 2, 1) := by decide +kernel
theorem dX6_shine_31 : decode cX6_shine 31 = .ok (.aload_n 0, 1) := by decide +kernel
theorem dX6_shine_32 : decode cX6_shine 32 = .ok (.invokevirtual 136, 3) := by decide +kernel
theorem dX6_shine_35 : decode cX6_shine 35 = .ok (.iload_n 2, 1) := by decide +kernel
theorem dX6_shine_36 : decode cX6_shine 36 = .ok (.ireturn, 1) := by decide +kernel
theorem dX6_dark_0 : decode cX6_dark 0 = .ok (.iload_n 1, 1) := by decide +kernel
theorem dX6_dark_1 : decode cX6_dark 1 = .ok (.iconst 1, 1) := by decide +kernel
theorem dX6_dark_2 : decode cX6_dark 2 = .ok (.bipush 10, 2) := by decide +kernel
theorem dX6_dark_4 : decode cX6_dark 4 = .ok (.invokestatic 54, 3) := by decide +kernel
theorem dX6_dark_7 : decode cX6_dark 7 = .ok (.ifCond .ne 9, 3) := by decide +kernel
theorem dX6_dark_10 : decode cX6_dark 10 = .ok (.aload_n 0, 1) := by decide +kernel
theorem dX6_dark_11 : decode cX6_dark 11 = .ok (.iconst 0, 1) := by decide +kernel
theorem dX6_dark_12 : decode cX6_dark 12 = .ok (.invokevirtual 94, 3) := by decide +kernel
theorem dX6_dark_15 : decode cX6_dark 15 = .ok (.ireturn, 1) := by decide +kernel
theorem dX6_dark_16 : decode cX6_dark 16 = .ok (.aload_n 0, 1) := by decide +kernel
theorem dX6_dark_17 : decode cX6_dark 17 = .ok (.invokevirtual 133, 3) := by decide +kernel
theorem dX6_dark_20 : decode cX6_dark 20 = .ok (.iconst 0, 1) := by decide +kernel
theorem dX6_dark_21 : decode cX6_dark 21 = .ok (.istore_n 2, 1) := by decide +kernel
theorem dX6_dark_22 : decode cX6_dark 22 = .ok (.iload_n 2, 1) := by decide +kernel
theorem dX6_dark_23 : decode cX6_dark 23 = .ok (.sipush 200, 3) := by decide +kernel
theorem dX6_dark_26 : decode cX6_dark 26 = .ok (.if_icmp .gt 24, 3) := by decide +kernel
theorem dX6_dark_29 : decode cX6_dark 29 = .ok (.aload_n 0, 1) := by decide +kernel
theorem dX6_dark_30 : decode cX6_dark 30 = .ok (.invokevirtual 117, 3) := by decide +kernel
theorem dX6_dark_33 : decode cX6_dark 33 = .ok (.invokestatic 121, 3) := by decide +kernel
theorem dX6_dark_36 : decode cX6_dark 36 = .ok (.iload_n 1, 1) := by decide +kernel
theorem dX6_dark_37 : decode cX6_dark 37 = .ok (.if_icmp .lt 13, 3) := by decide +kernel
theorem dX6_dark_40 : decode cX6_dark 40 = .ok (.aload_n 0, 1) := by decide +kernel
theorem dX6_dark_41 : decode cX6_dark 41 = .ok (.invokevirtual 88, 3) := by decide +kernel
theorem dX6_dark_44 : decode cX6_dark 44 = .ok (.iinc 2 1, 3) := by decide +kernel
theorem dX6_dark_47 : decode cX6_dark 47 = .ok (.goto (-25), 3) := by decide +kernel
theorem dX6_dark_50 : decode cX6_dark 50 = .ok (.aload_n 0, 1) := by decide +kernel
theorem dX6_dark_51 : decode cX6_dark 51 = .ok (.invokevirtual 136, 3) := by decide +kernel
theorem dX6_dark_54 : decode cX6_dark 54 = .ok (.iload_n 2, 1) := by decide +kernel
theorem dX6_dark_55 : decode cX6_dark 55 = .ok (.sipush 200, 3) := by decide +kernel
theorem dX6_dark_58 : decode cX6_dark 58 = .ok (.if_icmp .le 11, 3) := by decide +kernel
theorem dX6_dark_61 : decode cX6_dark 61 = .ok (.aload_n 0, 1) := by decide +kernel
theorem dX6_dark_62 : decode cX6_dark 62 = .ok (.iconst 3, 1) := by decide +kernel
theorem dX6_dark_63 : decode cX6_dark 63 = .ok (.invokevirtual 94, 3) := by decide +kernel
theorem dX6_dark_66 : decode cX6_dark 66 = .ok (.goto 4, 3) := by decide +kernel
theorem dX6_dark_69 : decode cX6_dark 69 = .ok (.iload_n 2, 1) := by decide +kernel
theorem dX6_dark_70 : decode cX6_dark 70 = .ok (.ireturn, 1) := by decide +kernel
theorem dX6_kindFor_0 : decode cX6_kindFor 0 = .ok (.aload_n 0, 1) := by decide +kernel
theorem dX6_kindFor_1 : decode cX6_kindFor 1 = .ok (.iload_n 1, 1) := by decide +kernel
theorem dX6_kindFor_2 : decode cX6_kindFor 2 = .ok (.invokevirtual 101, 3) := by decide +kernel
theorem dX6_kindFor_5 : decode cX6_kindFor 5 = .ok (.ifCond .ne 9, 3) := by decide +kernel
theorem dX6_kindFor_8 : decode cX6_kindFor 8 = .ok (.aload_n 0, 1) := by decide +kernel
theorem dX6_kindFor_9 : decode cX6_kindFor 9 = .ok (.iconst 0, 1) := by decide +kernel
theorem dX6_kindFor_10 : decode cX6_kindFor 10 = .ok (.invokevirtual 94, 3) := by decide +kernel
theorem dX6_kindFor_13 : decode cX6_kindFor 13 = .ok (.ireturn, 1) := by decide +kernel
theorem dX6_kindFor_14 : decode cX6_kindFor 14 = .ok (.aload_n 0, 1) := by decide +kernel
theorem dX6_kindFor_15 : decode cX6_kindFor 15 = .ok (.iload_n 1, 1) := by decide +kernel
theorem dX6_kindFor_16 : decode cX6_kindFor 16 = .ok (.iconst 0, 1) := by decide +kernel
theorem dX6_kindFor_17 : decode cX6_kindFor 17 = .ok (.invokevirtual 58, 3) := by decide +kernel
theorem dX6_kindFor_20 : decode cX6_kindFor 20 = .ok (.istore_n 2, 1) := by decide +kernel
theorem dX6_kindFor_21 : decode cX6_kindFor 21 = .ok (.iconst 0, 1) := by decide +kernel
theorem dX6_kindFor_22 : decode cX6_kindFor 22 = .ok (.istore_n 3, 1) := by decide +kernel
theorem dX6_kindFor_23 : decode cX6_kindFor 23 = .ok (.iconst (-1), 1) := by decide +kernel
theorem dX6_kindFor_24 : decode cX6_kindFor 24 = .ok (.istore 4, 2) := by decide +kernel
theorem dX6_kindFor_26 : decode cX6_kindFor 26 = .ok (.iconst 0, 1) := by decide +kernel
theorem dX6_kindFor_27 : decode cX6_kindFor 27 = .ok (.istore 5, 2) := by decide +kernel
theorem dX6_kindFor_29 : decode cX6_kindFor 29 = .ok (.iload 5, 2) := by decide +kernel
theorem dX6_kindFor_31 : decode cX6_kindFor 31 = .ok (.bipush 6, 2) := by decide +kernel
theorem dX6_kindFor_33 : decode cX6_kindFor 33 = .ok (.if_icmp .gt 53, 3) := by decide +kernel
theorem dX6_kindFor_36 : decode cX6_kindFor 36 = .ok (.aload_n 0, 1) := by decide +kernel
theorem dX6_kindFor_37 : decode cX6_kindFor 37 = .ok (.iload_n 1, 1) := by decide +kernel
theorem dX6_kindFor_38 : decode cX6_kindFor 38 = .ok (.iconst 0, 1) := by decide +kernel
theorem dX6_kindFor_39 : decode cX6_kindFor 39 = .ok (.iload 5, 2) := by decide +kernel
theorem dX6_kindFor_41 : decode cX6_kindFor 41 = .ok (.invokevirtual 80, 3) := by decide +kernel
theorem dX6_kindFor_44 : decode cX6_kindFor 44 = .ok (.sipush 200, 3) := by decide +kernel
theorem dX6_kindFor_47 : decode cX6_kindFor 47 = .ok (.aload_n 0, 1) := by decide +kernel
theorem dX6_kindFor_48 : decode cX6_kindFor 48 = .ok (.iload_n 1, 1) := by decide +kernel
theorem dX6_kindFor_49 : decode cX6_kindFor 49 = .ok (.invokevirtual 139, 3) := by decide +kernel
theorem dX6_kindFor_52 : decode cX6_kindFor 52 = .ok (.invokestatic 85, 3) := by decide +kernel
theorem dX6_kindFor_55 : decode cX6_kindFor 55 = .ok (.istore 6, 2) := by decide +kernel
theorem dX6_kindFor_57 : decode cX6_kindFor 57 = .ok (.iload 6, 2) := by decide +kernel
theorem dX6_kindFor_59 : decode cX6_kindFor 59 = .ok (.iload 4, 2) := by decide +kernel
theorem dX6_kindFor_61 : decode cX6_kindFor 61 = .ok (.if_icmp .le 8, 3) := by decide +kernel
theorem dX6_kindFor_64 : decode cX6_kindFor 64 = .ok (.iload 5, 2) := by decide +kernel
theorem dX6_kindFor_66 : decode cX6_kindFor 66 = .ok (.goto 4, 3) := by decide +kernel
theorem dX6_kindFor_69 : decode cX6_kindFor 69 = .ok (.iload_n 3, 1) := by decide +kernel
theorem dX6_kindFor_70 : decode cX6_kindFor 70 = .ok (.istore_n 3, 1) := by decide +kernel
theorem dX6_kindFor_71 : decode cX6_kindFor 71 = .ok (.iload 4, 2) := by decide +kernel
theorem dX6_kindFor_73 : decode cX6_kindFor 73 = .ok (.iload 6, 2) := by decide +kernel
theorem dX6_kindFor_75 : decode cX6_kindFor 75 = .ok (.invokestatic 77, 3) := by decide +kernel
theorem dX6_kindFor_78 : decode cX6_kindFor 78 = .ok (.istore 4, 2) := by decide +kernel
theorem dX6_kindFor_80 : decode cX6_kindFor 80 = .ok (.iinc 5 1, 3) := by decide +kernel
theorem dX6_kindFor_83 : decode cX6_kindFor 83 = .ok (.goto (-54), 3) := by decide +kernel
theorem dX6_kindFor_86 : decode cX6_kindFor 86 = .ok (.aload_n 0, 1) := by decide +kernel
theorem dX6_kindFor_87 : decode cX6_kindFor 87 = .ok (.iload_n 1, 1) := by decide +kernel
theorem dX6_kindFor_88 : decode cX6_kindFor 88 = .ok (.iconst 0, 1) := by decide +kernel
theorem dX6_kindFor_89 : decode cX6_kindFor 89 = .ok (.iload_n 2, 1) := by decide +kernel
theorem dX6_kindFor_90 : decode cX6_kindFor 90 = .ok (.invokevirtual 80, 3) := by decide +kernel
theorem dX6_kindFor_93 : decode cX6_kindFor 93 = .ok (.iload_n 3, 1) := by decide +kernel
theorem dX6_kindFor_94 : decode cX6_kindFor 94 = .ok (.ireturn, 1) := by decide +kernel
theorem dX6_dustFor_0 : decode cX6_dustFor 0 = .ok (.aload_n 0, 1) := by decide +kernel
theorem dX6_dustFor_1 : decode cX6_dustFor 1 = .ok (.iload_n 1, 1) := by decide +kernel
theorem dX6_dustFor_2 : decode cX6_dustFor 2 = .ok (.invokevirtual 101, 3) := by decide +kernel
theorem dX6_dustFor_5 : decode cX6_dustFor 5 = .ok (.ifCond .eq 14, 3) := by decide +kernel
theorem dX6_dustFor_8 : decode cX6_dustFor 8 = .ok (.iload_n 2, 1) := by decide +kernel
theorem dX6_dustFor_9 : decode cX6_dustFor 9 = .ok (.iconst 0, 1) := by decide +kernel
theorem dX6_dustFor_10 : decode cX6_dustFor 10 = .ok (.sipush 200, 3) := by decide +kernel
theorem dX6_dustFor_13 : decode cX6_dustFor 13 = .ok (.invokestatic 54, 3) := by decide +kernel
theorem dX6_dustFor_16 : decode cX6_dustFor 16 = .ok (.ifCond .ne 9, 3) := by decide +kernel
theorem dX6_dustFor_19 : decode cX6_dustFor 19 = .ok (.aload_n 0, 1) := by decide +kernel
theorem dX6_dustFor_20 : decode cX6_dustFor 20 = .ok (.iconst 0, 1) := by decide +kernel
theorem dX6_dustFor_21 : decode cX6_dustFor 21 = .ok (.invokevirtual 94, 3) := by decide +kernel
theorem dX6_dustFor_24 : decode cX6_dustFor 24 = .ok (.ireturn, 1) := by decide +kernel
theorem dX6_dustFor_25 : decode cX6_dustFor 25 = .ok (.aload_n 0, 1) := by decide +kernel
theorem dX6_dustFor_26 : decode cX6_dustFor 26 = .ok (.invokevirtual 133, 3) := by decide +kernel
theorem dX6_dustFor_29 : decode cX6_dustFor 29 = .ok (.iconst (-1), 1) := by decide +kernel
theorem dX6_dustFor_30 : decode cX6_dustFor 30 = .ok (.istore_n 3, 1) := by decide +kernel
theorem dX6_dustFor_31 : decode cX6_dustFor 31 = .ok (.iconst 0, 1) := by decide +kernel
theorem dX6_dustFor_32 : decode cX6_dustFor 32 = .ok (.istore 4, 2) := by decide +kernel
theorem dX6_dustFor_34 : decode cX6_dustFor 34 = .ok (.iload 4, 2) := by decide +kernel
theorem dX6_dustFor_36 : decode cX6_dustFor 36 = .ok (.bipush 9, 2) := by decide +kernel
theorem dX6_dustFor_38 : decode cX6_dustFor 38 = .ok (.if_icmp .gt 41, 3) := by decide +kernel
theorem dX6_dustFor_41 : decode cX6_dustFor 41 = .ok (.aload_n 0, 1) := by decide +kernel
theorem dX6_dustFor_42 : decode cX6_dustFor 42 = .ok (.getfield 9, 3) := by decide +kernel
theorem dX6_dustFor_45 : decode cX6_dustFor 45 = .ok (.iconst 4, 1) := by decide +kernel
theorem dX6_dustFor_46 : decode cX6_dustFor 46 = .ok (.iload 4, 2) := by decide +kernel
theorem dX6_dustFor_48 : decode cX6_dustFor 48 = .ok (.iastore, 1) := by decide +kernel
theorem dX6_dustFor_49 : decode cX6_dustFor 49 = .ok (.aload_n 0, 1) := by decide +kernel
theorem dX6_dustFor_50 : decode cX6_dustFor 50 = .ok (.iload_n 2, 1) := by decide +kernel
theorem dX6_dustFor_51 : decode cX6_dustFor 51 = .ok (.invokevirtual 113, 3) := by decide +kernel
theorem dX6_dustFor_54 : decode cX6_dustFor 54 = .ok (.aload_n 0, 1) := by decide +kernel
theorem dX6_dustFor_55 : decode cX6_dustFor 55 = .ok (.iload_n 1, 1) := by decide +kernel
theorem dX6_dustFor_56 : decode cX6_dustFor 56 = .ok (.invokevirtual 66, 3) := by decide +kernel
theorem dX6_dustFor_59 : decode cX6_dustFor 59 = .ok (.ifCond .eq 8, 3) := by decide +kernel
theorem dX6_dustFor_62 : decode cX6_dustFor 62 = .ok (.iload 4, 2) := by decide +kernel
theorem dX6_dustFor_64 : decode cX6_dustFor 64 = .ok (.goto 4, 3) := by decide +kernel
theorem dX6_dustFor_67 : decode cX6_dustFor 67 = .ok (.iload_n 3, 1) := by decide +kernel
theorem dX6_dustFor_68 : decode cX6_dustFor 68 = .ok (.istore_n 3, 1) := by decide +kernel
theorem dX6_dustFor_69 : decode cX6_dustFor 69 = .ok (.aload_n 0, 1) := by decide +kernel
theorem dX6_dustFor_70 : decode cX6_dustFor 70 = .ok (.invokevirtual 136, 3) := by decide +kernel
theorem dX6_dustFor_73 : decode cX6_dustFor 73 = .ok (.iinc 4 1, 3) := by decide +kernel
theorem dX6_dustFor_76 : decode cX6_dustFor 76 = .ok (.goto (-42), 3) := by decide +kernel
theorem dX6_dustFor_79 : decode cX6_dustFor 79 = .ok (.iload_n 3, 1) := by decide +kernel
theorem dX6_dustFor_80 : decode cX6_dustFor 80 = .ok (.ifCond .ge 11, 3) := by decide +kernel
theorem dX6_dustFor_83 : decode cX6_dustFor 83 = .ok (.aload_n 0, 1) := by decide +kernel
theorem dX6_dustFor_84 : decode cX6_dustFor 84 = .ok (.iconst 3, 1) := by decide +kernel
theorem dX6_dustFor_85 : decode cX6_dustFor 85 = .ok (.invokevirtual 94, 3) := by decide +kernel
theorem dX6_dustFor_88 : decode cX6_dustFor 88 = .ok (.goto 4, 3) := by decide +kernel
theorem dX6_dustFor_91 : decode cX6_dustFor 91 = .ok (.iload_n 3, 1) := by decide +kernel
theorem dX6_dustFor_92 : decode cX6_dustFor 92 = .ok (.ireturn, 1) := by decide +kernel
theorem dX6_uses_0 : decode cX6_uses 0 = .ok (.iload_n 1, 1) := by decide +kernel
theorem dX6_uses_1 : decode cX6_uses 1 = .ok (.iconst 0, 1) := by decide +kernel
theorem dX6_uses_2 : decode cX6_uses 2 = .ok (.sipush 200, 3) := by decide +kernel
theorem dX6_uses_5 : decode cX6_uses 5 = .ok (.invokestatic 54, 3) := by decide +kernel
theorem dX6_uses_8 : decode cX6_uses 8 = .ok (.ifCond .ne 9, 3) := by decide +kernel
theorem dX6_uses_11 : decode cX6_uses 11 = .ok (.aload_n 0, 1) := by decide +kernel
theorem dX6_uses_12 : decode cX6_uses 12 = .ok (.iconst 0, 1) := by decide +kernel
theorem dX6_uses_13 : decode cX6_uses 13 = .ok (.invokevirtual 94, 3) := by decide +kernel
theorem dX6_uses_16 : decode cX6_uses 16 = .ok (.ireturn, 1) := by decide +kernel
theorem dX6_uses_17 : decode cX6_uses 17 = .ok (.aload_n 0, 1) := by decide +kernel
theorem dX6_uses_18 : decode cX6_uses 18 = .ok (.invokevirtual 133, 3) := by decide +kernel
theorem dX6_uses_21 : decode cX6_uses 21 = .ok (.iconst 0, 1) := by decide +kernel
theorem dX6_uses_22 : decode cX6_uses 22 = .ok (.istore_n 2, 1) := by decide +kernel
theorem dX6_uses_23 : decode cX6_uses 23 = .ok (.iconst 0, 1) := by decide +kernel
theorem dX6_uses_24 : decode cX6_uses 24 = .ok (.istore_n 3, 1) := by decide +kernel
theorem dX6_uses_25 : decode cX6_uses 25 = .ok (.iload_n 3, 1) := by decide +kernel
theorem dX6_uses_26 : decode cX6_uses 26 = .ok (.iload_n 1, 1) := by decide +kernel
theorem dX6_uses_27 : decode cX6_uses 27 = .ok (.if_icmp .ge 78, 3) := by decide +kernel
theorem dX6_uses_30 : decode cX6_uses 30 = .ok (.iconst 0, 1) := by decide +kernel
theorem dX6_uses_31 : decode cX6_uses 31 = .ok (.istore 4, 2) := by decide +kernel
theorem dX6_uses_33 : decode cX6_uses 33 = .ok (.iload 4, 2) := by decide +kernel
theorem dX6_uses_35 : decode cX6_uses 35 = .ok (.aload_n 0, 1) := by decide +kernel
theorem dX6_uses_36 : decode cX6_uses 36 = .ok (.getfield 9, 3) := by decide +kernel
theorem dX6_uses_39 : decode cX6_uses 39 = .ok (.iconst 1, 1) := by decide +kernel
theorem dX6_uses_40 : decode cX6_uses 40 = .ok (.iaload, 1) := by decide +kernel
theorem dX6_uses_41 : decode cX6_uses 41 = .ok (.if_icmp .ge 54, 3) := by decide +kernel
theorem dX6_uses_44 : decode cX6_uses 44 = .ok (.iload_n 2, 1) := by decide +kernel
theorem dX6_uses_45 : decode cX6_uses 45 = .ok (.aload_n 0, 1) := by decide +kernel
theorem dX6_uses_46 : decode cX6_uses 46 = .ok (.iload 4, 2) := by decide +kernel
theorem dX6_uses_48 : decode cX6_uses 48 = .ok (.invokevirtual 66, 3) := by decide +kernel
theorem dX6_uses_51 : decode cX6_uses 51 = .ok (.ifCond .eq 7, 3) := by decide +kernel
theorem dX6_uses_54 : decode cX6_uses 54 = .ok (.iconst 0, 1) := by decide +kernel
theorem dX6_uses_55 : decode cX6_uses 55 = .ok (.goto 4, 3) := by decide +kernel
theorem dX6_uses_58 : decode cX6_uses 58 = .ok (.iconst 1, 1) := by decide +kernel
theorem dX6_uses_59 : decode cX6_uses 59 = .ok (.iadd, 1) := by decide +kernel
theorem dX6_uses_60 : decode cX6_uses 60 = .ok (.istore_n 2, 1) := by decide +kernel
theorem dX6_uses_61 : decode cX6_uses 61 = .ok (.aload_n 0, 1) := by decide +kernel
theorem dX6_uses_62 : decode cX6_uses 62 = .ok (.iload 4, 2) := by decide +kernel
theorem dX6_uses_64 : decode cX6_uses 64 = .ok (.iconst 2, 1) := by decide +kernel
theorem dX6_uses_65 : decode cX6_uses 65 = .ok (.aload_n 0, 1) := by decide +kernel
theorem dX6_uses_66 : decode cX6_uses 66 = .ok (.iload 4, 2) := by decide +kernel
theorem dX6_uses_68 : decode cX6_uses 68 = .ok (.invokevirtual 66, 3) := by decide +kernel
theorem dX6_uses_71 : decode cX6_uses 71 = .ok (.ifCond .eq 13, 3) := by decide +kernel
theorem dX6_uses_74 : decode cX6_uses 74 = .ok (.aload_n 0, 1) := by decide +kernel
theorem dX6_uses_75 : decode cX6_uses 75 = .ok (.iload 4, 2) := by decide +kernel
theorem dX6_uses_77 : decode cX6_uses 77 = .ok (.iconst 2, 1) := by decide +kernel
theorem dX6_uses_78 : decode cX6_uses 78 = .ok (.invokevirtual 58, 3) := by decide +kernel
theorem dX6_uses_81 : decode cX6_uses 81 = .ok (.goto 5, 3) := by decide +kernel
theorem dX6_uses_84 : decode cX6_uses 84 = .ok (.bipush 99, 2) := by decide +kernel
theorem dX6_uses_86 : decode cX6_uses 86 = .ok (.invokevirtual 80, 3) := by decide +kernel
theorem dX6_uses_89 : decode cX6_uses 89 = .ok (.iinc 4 1, 3) := by decide +kernel
theorem dX6_uses_92 : decode cX6_uses 92 = .ok (.goto (-59), 3) := by decide +kernel
theorem dX6_uses_95 : decode cX6_uses 95 = .ok (.aload_n 0, 1) := by decide +kernel
theorem dX6_uses_96 : decode cX6_uses 96 = .ok (.invokevirtual 88, 3) := by decide +kernel
theorem dX6_uses_99 : decode cX6_uses 99 = .ok (.iinc 3 1, 3) := by decide +kernel
theorem dX6_uses_102 : decode cX6_uses 102 = .ok (.goto (-77), 3) := by decide +kernel
theorem dX6_uses_105 : decode cX6_uses 105 = .ok (.aload_n 0, 1) := by decide +kernel
theorem dX6_uses_106 : decode cX6_uses 106 = .ok (.invokevirtual 136, 3) := by decide +kernel
theorem dX6_uses_109 : decode cX6_uses 109 = .ok (.iload_n 2, 1) := by decide +kernel
theorem dX6_uses_110 : decode cX6_uses 110 = .ok (.ireturn, 1) := by decide +kernel
theorem dX6_walk_0 : decode cX6_walk 0 = .ok (.iconst 0, 1) := by decide +kernel
theorem dX6_walk_1 : decode cX6_walk 1 = .ok (.istore_n 3, 1) := by decide +kernel
theorem dX6_walk_2 : decode cX6_walk 2 = .ok (.iconst 0, 1) := by decide +kernel
theorem dX6_walk_3 : decode cX6_walk 3 = .ok (.istore 4, 2) := by decide +kernel
theorem dX6_walk_5 : decode cX6_walk 5 = .ok (.iload 4, 2) := by decide +kernel
theorem dX6_walk_7 : decode cX6_walk 7 = .ok (.aload_n 0, 1) := by decide +kernel
theorem dX6_walk_8 : decode cX6_walk 8 = .ok (.getfield 9, 3) := by decide +kernel
theorem dX6_walk_11 : decode cX6_walk 11 = .ok (.iconst 1, 1) := by decide +kernel
theorem dX6_walk_12 : decode cX6_walk 12 = .ok (.iaload, 1) := by decide +kernel
theorem dX6_walk_13 : decode cX6_walk 13 = .ok (.if_icmp .ge 91, 3) := by decide +kernel
theorem dX6_walk_16 : decode cX6_walk 16 = .ok (.iload_n 2, 1) := by decide +kernel
theorem dX6_walk_17 : decode cX6_walk 17 = .ok (.iload 4, 2) := by decide +kernel
theorem dX6_walk_19 : decode cX6_walk 19 = .ok (.invokestatic 70, 3) := by decide +kernel
theorem dX6_walk_22 : decode cX6_walk 22 = .ok (.ifCond .eq 76, 3) := by decide +kernel
theorem dX6_walk_25 : decode cX6_walk 25 = .ok (.aload_n 0, 1) := by decide +kernel
theorem dX6_walk_26 : decode cX6_walk 26 = .ok (.iload 4, 2) := by decide +kernel
theorem dX6_walk_28 : decode cX6_walk 28 = .ok (.iconst 1, 1) := by decide +kernel
theorem dX6_walk_29 : decode cX6_walk 29 = .ok (.invokevirtual 58, 3) := by decide +kernel
theorem dX6_walk_32 : decode cX6_walk 32 = .ok (.iload_n 1, 1) := by decide +kernel
theorem dX6_walk_33 : decode cX6_walk 33 = .ok (.isub, 1) := by decide +kernel
theorem dX6_walk_34 : decode cX6_walk 34 = .ok (.bipush 100, 2) := by decide +kernel
theorem dX6_walk_36 : decode cX6_walk 36 = .ok (.iadd, 1) := by decide +kernel
theorem dX6_walk_37 : decode cX6_walk 37 = .ok (.bipush 100, 2) := by decide +kernel
theorem dX6_walk_39 : decode cX6_walk 39 = .ok (.irem, 1) := by decide +kernel
theorem dX6_walk_40 : decode cX6_walk 40 = .ok (.istore 5, 2) := by decide +kernel
theorem dX6_walk_42 : decode cX6_walk 42 = .ok (.iload_n 3, 1) := by decide +kernel
theorem dX6_walk_43 : decode cX6_walk 43 = .ok (.istore 6, 2) := by decide +kernel
theorem dX6_walk_45 : decode cX6_walk 45 = .ok (.iload 6, 2) := by decide +kernel
theorem dX6_walk_47 : decode cX6_walk 47 = .ok (.ifCond .le 39, 3) := by decide +kernel
theorem dX6_walk_50 : decode cX6_walk 50 = .ok (.aload_n 0, 1) := by decide +kernel
theorem dX6_walk_51 : decode cX6_walk 51 = .ok (.getfield 22, 3) := by decide +kernel
theorem dX6_walk_54 : decode cX6_walk 54 = .ok (.iload 6, 2) := by decide +kernel
theorem dX6_walk_56 : decode cX6_walk 56 = .ok (.iconst 1, 1) := by decide +kernel
theorem dX6_walk_57 : decode cX6_walk 57 = .ok (.isub, 1) := by decide +kernel
theorem dX6_walk_58 : decode cX6_walk 58 = .ok (.iaload, 1) := by decide +kernel
theorem dX6_walk_59 : decode cX6_walk 59 = .ok (.iload 5, 2) := by decide +kernel
theorem dX6_walk_61 : decode cX6_walk 61 = .ok (.if_icmp .le 25, 3) := by decide +kernel
theorem dX6_walk_64 : decode cX6_walk 64 = .ok (.aload_n 0, 1) := by decide +kernel
theorem dX6_walk_65 : decode cX6_walk 65 = .ok (.getfield 22, 3) := by decide +kernel
theorem dX6_walk_68 : decode cX6_walk 68 = .ok (.iload 6, 2) := by decide +kernel
theorem dX6_walk_70 : decode cX6_walk 70 = .ok (.aload_n 0, 1) := by decide +kernel
theorem dX6_walk_71 : decode cX6_walk 71 = .ok (.getfield 22, 3) := by decide +kernel
theorem dX6_walk_74 : decode cX6_walk 74 = .ok (.iload 6, 2) := by decide +kernel
theorem dX6_walk_76 : decode cX6_walk 76 = .ok (.iconst 1, 1) := by decide +kernel
theorem dX6_walk_77 : decode cX6_walk 77 = .ok (.isub, 1) := by decide +kernel
theorem dX6_walk_78 : decode cX6_walk 78 = .ok (.iaload, 1) := by decide +kernel
theorem dX6_walk_79 : decode cX6_walk 79 = .ok (.iastore, 1) := by decide +kernel
theorem dX6_walk_80 : decode cX6_walk 80 = .ok (.iinc 6 (-1), 3) := by decide +kernel
theorem dX6_walk_83 : decode cX6_walk 83 = .ok (.goto (-38), 3) := by decide +kernel
theorem dX6_walk_86 : decode cX6_walk 86 = .ok (.aload_n 0, 1) := by decide +kernel
theorem dX6_walk_87 : decode cX6_walk 87 = .ok (.getfield 22, 3) := by decide +kernel
theorem dX6_walk_90 : decode cX6_walk 90 = .ok (.iload 6, 2) := by decide +kernel
theorem dX6_walk_92 : decode cX6_walk 92 = .ok (.iload 5, 2) := by decide +kernel
theorem dX6_walk_94 : decode cX6_walk 94 = .ok (.iastore, 1) := by decide +kernel
theorem dX6_walk_95 : decode cX6_walk 95 = .ok (.iinc 3 1, 3) := by decide +kernel
theorem dX6_walk_98 : decode cX6_walk 98 = .ok (.iinc 4 1, 3) := by decide +kernel
theorem dX6_walk_101 : decode cX6_walk 101 = .ok (.goto (-96), 3) := by decide +kernel
theorem dX6_walk_104 : decode cX6_walk 104 = .ok (.iconst (-1), 1) := by decide +kernel
theorem dX6_walk_105 : decode cX6_walk 105 = .ok (.istore 4, 2) := by decide +kernel
theorem dX6_walk_107 : decode cX6_walk 107 = .ok (.iconst 0, 1) := by decide +kernel
theorem dX6_walk_108 : decode cX6_walk 108 = .ok (.istore 5, 2) := by decide +kernel
theorem dX6_walk_110 : decode cX6_walk 110 = .ok (.iload 5, 2) := by decide +kernel
theorem dX6_walk_112 : decode cX6_walk 112 = .ok (.iload_n 3, 1) := by decide +kernel
theorem dX6_walk_113 : decode cX6_walk 113 = .ok (.if_icmp .gt 85, 3) := by decide +kernel
theorem dX6_walk_116 : decode cX6_walk 116 = .ok (.iload 5, 2) := by decide +kernel
theorem dX6_walk_118 : decode cX6_walk 118 = .ok (.ifCond .ne 7, 3) := by decide +kernel
theorem dX6_walk_121 : decode cX6_walk 121 = .ok (.iconst 0, 1) := by decide +kernel
theorem dX6_walk_122 : decode cX6_walk 122 = .ok (.goto 12, 3) := by decide +kernel
theorem dX6_walk_125 : decode cX6_walk 125 = .ok (.aload_n 0, 1) := by decide +kernel
theorem dX6_walk_126 : decode cX6_walk 126 = .ok (.getfield 22, 3) := by decide +kernel
theorem dX6_walk_129 : decode cX6_walk 129 = .ok (.iload 5, 2) := by decide +kernel
theorem dX6_walk_131 : decode cX6_walk 131 = .ok (.iconst 1, 1) := by decide +kernel
theorem dX6_walk_132 : decode cX6_walk 132 = .ok (.isub, 1) := by decide +kernel
theorem dX6_walk_133 : decode cX6_walk 133 = .ok (.iaload, 1) := by decide +kernel
theorem dX6_walk_134 : decode cX6_walk 134 = .ok (.istore 6, 2) := by decide +kernel
theorem dX6_walk_136 : decode cX6_walk 136 = .ok (.iload 5, 2) := by decide +kernel
theorem dX6_walk_138 : decode cX6_walk 138 = .ok (.iload_n 3, 1) := by decide +kernel
theorem dX6_walk_139 : decode cX6_walk 139 = .ok (.if_icmp .ne 7, 3) := by decide +kernel
theorem dX6_walk_142 : decode cX6_walk 142 = .ok (.iconst 0, 1) := by decide +kernel
theorem dX6_walk_143 : decode cX6_walk 143 = .ok (.goto 13, 3) := by decide +kernel
theorem dX6_walk_146 : decode cX6_walk 146 = .ok (.bipush 100, 2) := by decide +kernel
theorem dX6_walk_148 : decode cX6_walk 148 = .ok (.aload_n 0, 1) := by decide +kernel
theorem dX6_walk_149 : decode cX6_walk 149 = .ok (.getfield 22, 3) := by decide +kernel
theorem dX6_walk_152 : decode cX6_walk 152 = .ok (.iload 5, 2) := by decide +kernel
theorem dX6_walk_154 : decode cX6_walk 154 = .ok (.iaload, 1) := by decide +kernel
theorem dX6_walk_155 : decode cX6_walk 155 = .ok (.isub, 1) := by decide +kernel
theorem dX6_walk_156 : decode cX6_walk 156 = .ok (.istore 7, 2) := by decide +kernel
theorem dX6_walk_158 : decode cX6_walk 158 = .ok (.iload 6, 2) := by decide +kernel
theorem dX6_walk_160 : decode cX6_walk 160 = .ok (.iload 7, 2) := by decide +kernel
theorem dX6_walk_162 : decode cX6_walk 162 = .ok (.iadd, 1) := by decide +kernel
theorem dX6_walk_163 : decode cX6_walk 163 = .ok (.iload 6, 2) := by decide +kernel
theorem dX6_walk_165 : decode cX6_walk 165 = .ok (.iload 7, 2) := by decide +kernel
theorem dX6_walk_167 : decode cX6_walk 167 = .ok (.invokestatic 85, 3) := by decide +kernel
theorem dX6_walk_170 : decode cX6_walk 170 = .ok (.iadd, 1) := by decide +kernel
theorem dX6_walk_171 : decode cX6_walk 171 = .ok (.istore 8, 2) := by decide +kernel
theorem dX6_walk_173 : decode cX6_walk 173 = .ok (.iload 4, 2) := by decide +kernel
theorem dX6_walk_175 : decode cX6_walk 175 = .ok (.ifCond .ge 8, 3) := by decide +kernel
theorem dX6_walk_178 : decode cX6_walk 178 = .ok (.iload 8, 2) := by decide +kernel
theorem dX6_walk_180 : decode cX6_walk 180 = .ok (.goto 10, 3) := by decide +kernel
theorem dX6_walk_183 : decode cX6_walk 183 = .ok (.iload 4, 2) := by decide +kernel
theorem dX6_walk_185 : decode cX6_walk 185 = .ok (.iload 8, 2) := by decide +kernel
theorem dX6_walk_187 : decode cX6_walk 187 = .ok (.invokestatic 85, 3) := by decide +kernel
theorem dX6_walk_190 : decode cX6_walk 190 = .ok (.istore 4, 2) := by decide +kernel
theorem dX6_walk_192 : decode cX6_walk 192 = .ok (.iinc 5 1, 3) := by decide +kernel
theorem dX6_walk_195 : decode cX6_walk 195 = .ok (.goto (-85), 3) := by decide +kernel
theorem dX6_walk_198 : decode cX6_walk 198 = .ok (.iload 4, 2) := by decide +kernel
theorem dX6_walk_200 : decode cX6_walk 200 = .ok (.ireturn, 1) := by decide +kernel
theorem dX6_roundOf_0 : decode cX6_roundOf 0 = .ok (.aload_n 0, 1) := by decide +kernel
theorem dX6_roundOf_1 : decode cX6_roundOf 1 = .ok (.iload_n 1, 1) := by decide +kernel
theorem dX6_roundOf_2 : decode cX6_roundOf 2 = .ok (.iload_n 2, 1) := by decide +kernel
theorem dX6_roundOf_3 : decode cX6_roundOf 3 = .ok (.invokevirtual 142, 3) := by decide +kernel
theorem dX6_roundOf_6 : decode cX6_roundOf 6 = .ok (.aload_n 0, 1) := by decide +kernel
theorem dX6_roundOf_7 : decode cX6_roundOf 7 = .ok (.getfield 9, 3) := by decide +kernel
theorem dX6_roundOf_10 : decode cX6_roundOf 10 = .ok (.bipush 6, 2) := by decide +kernel
theorem dX6_roundOf_12 : decode cX6_roundOf 12 = .ok (.iaload, 1) := by decide +kernel
theorem dX6_roundOf_13 : decode cX6_roundOf 13 = .ok (.iload_n 2, 1) := by decide +kernel
theorem dX6_roundOf_14 : decode cX6_roundOf 14 = .ok (.invokestatic 121, 3) := by decide +kernel
theorem dX6_roundOf_17 : decode cX6_roundOf 17 = .ok (.imul, 1) := by decide +kernel
theorem dX6_roundOf_18 : decode cX6_roundOf 18 = .ok (.iadd, 1) := by decide +kernel
theorem dX6_roundOf_19 : decode cX6_roundOf 19 = .ok (.ireturn, 1) := by decide +kernel
theorem dX6_round_0 : decode cX6_round 0 = .ok (.iload_n 1, 1) := by decide +kernel
theorem dX6_round_1 : decode cX6_round 1 = .ok (.invokestatic 104, 3) := by decide +kernel
theorem dX6_round_4 : decode cX6_round 4 = .ok (.ifCond .eq 24, 3) := by decide +kernel
theorem dX6_round_7 : decode cX6_round 7 = .ok (.aload_n 0, 1) := by decide +kernel
theorem dX6_round_8 : decode cX6_round 8 = .ok (.iload_n 2, 1) := by decide +kernel
theorem dX6_round_9 : decode cX6_round 9 = .ok (.invokevirtual 145, 3) := by decide +kernel
theorem dX6_round_12 : decode cX6_round 12 = .ok (.ifCond .eq 16, 3) := by decide +kernel
theorem dX6_round_15 : decode cX6_round 15 = .ok (.aload_n 0, 1) := by decide +kernel
theorem dX6_round_16 : decode cX6_round 16 = .ok (.aload_n 0, 1) := by decide +kernel
theorem dX6_round_17 : decode cX6_round 17 = .ok (.iload_n 1, 1) := by decide +kernel
theorem dX6_round_18 : decode cX6_round 18 = .ok (.invokevirtual 130, 3) := by decide +kernel
theorem dX6_round_21 : decode cX6_round 21 = .ok (.iload_n 2, 1) := by decide +kernel
theorem dX6_round_22 : decode cX6_round 22 = .ok (.invokevirtual 148, 3) := by decide +kernel
theorem dX6_round_25 : decode cX6_round 25 = .ok (.goto 8, 3) := by decide +kernel
theorem dX6_round_28 : decode cX6_round 28 = .ok (.aload_n 0, 1) := by decide +kernel
theorem dX6_round_29 : decode cX6_round 29 = .ok (.iconst 0, 1) := by decide +kernel
theorem dX6_round_30 : decode cX6_round 30 = .ok (.invokevirtual 94, 3) := by decide +kernel
theorem dX6_round_33 : decode cX6_round 33 = .ok (.ireturn, 1) := by decide +kernel
theorem dX6_bestOf_0 : decode cX6_bestOf 0 = .ok (.iconst 0, 1) := by decide +kernel
theorem dX6_bestOf_1 : decode cX6_bestOf 1 = .ok (.istore_n 2, 1) := by decide +kernel
theorem dX6_bestOf_2 : decode cX6_bestOf 2 = .ok (.iconst 1, 1) := by decide +kernel
theorem dX6_bestOf_3 : decode cX6_bestOf 3 = .ok (.istore_n 3, 1) := by decide +kernel
theorem dX6_bestOf_4 : decode cX6_bestOf 4 = .ok (.iload_n 3, 1) := by decide +kernel
theorem dX6_bestOf_5 : decode cX6_bestOf 5 = .ok (.iconst 1, 1) := by decide +kernel
theorem dX6_bestOf_6 : decode cX6_bestOf 6 = .ok (.aload_n 0, 1) := by decide +kernel
theorem dX6_bestOf_7 : decode cX6_bestOf 7 = .ok (.getfield 9, 3) := by decide +kernel
theorem dX6_bestOf_10 : decode cX6_bestOf 10 = .ok (.iconst 1, 1) := by decide +kernel
theorem dX6_bestOf_11 : decode cX6_bestOf 11 = .ok (.iaload, 1) := by decide +kernel
theorem dX6_bestOf_12 : decode cX6_bestOf 12 = .ok (.ishl, 1) := by decide +kernel
theorem dX6_bestOf_13 : decode cX6_bestOf 13 = .ok (.if_icmp .ge 72, 3) := by decide +kernel
theorem dX6_bestOf_16 : decode cX6_bestOf 16 = .ok (.aload_n 0, 1) := by decide +kernel
theorem dX6_bestOf_17 : decode cX6_bestOf 17 = .ok (.iload_n 3, 1) := by decide +kernel
theorem dX6_bestOf_18 : decode cX6_bestOf 18 = .ok (.invokevirtual 127, 3) := by decide +kernel
theorem dX6_bestOf_21 : decode cX6_bestOf 21 = .ok (.aload_n 0, 1) := by decide +kernel
theorem dX6_bestOf_22 : decode cX6_bestOf 22 = .ok (.iload_n 2, 1) := by decide +kernel
theorem dX6_bestOf_23 : decode cX6_bestOf 23 = .ok (.invokevirtual 127, 3) := by decide +kernel
theorem dX6_bestOf_26 : decode cX6_bestOf 26 = .ok (.if_icmp .le 21, 3) := by decide +kernel
theorem dX6_bestOf_29 : decode cX6_bestOf 29 = .ok (.iload_n 3, 1) := by decide +kernel
theorem dX6_bestOf_30 : decode cX6_bestOf 30 = .ok (.invokestatic 121, 3) := by decide +kernel
theorem dX6_bestOf_33 : decode cX6_bestOf 33 = .ok (.aload_n 0, 1) := by decide +kernel
theorem dX6_bestOf_34 : decode cX6_bestOf 34 = .ok (.getfield 9, 3) := by decide +kernel
theorem dX6_bestOf_37 : decode cX6_bestOf 37 = .ok (.bipush 7, 2) := by decide +kernel
theorem dX6_bestOf_39 : decode cX6_bestOf 39 = .ok (.iaload, 1) := by decide +kernel
theorem dX6_bestOf_40 : decode cX6_bestOf 40 = .ok (.if_icmp .gt 7, 3) := by decide +kernel
theorem dX6_bestOf_43 : decode cX6_bestOf 43 = .ok (.iconst 1, 1) := by decide +kernel
theorem dX6_bestOf_44 : decode cX6_bestOf 44 = .ok (.goto 4, 3) := by decide +kernel
theorem dX6_bestOf_47 : decode cX6_bestOf 47 = .ok (.iconst 0, 1) := by decide +kernel
theorem dX6_bestOf_48 : decode cX6_bestOf 48 = .ok (.istore 4, 2) := by decide +kernel
theorem dX6_bestOf_50 : decode cX6_bestOf 50 = .ok (.iload 4, 2) := by decide +kernel
theorem dX6_bestOf_52 : decode cX6_bestOf 52 = .ok (.ifCond .eq 25, 3) := by decide +kernel
theorem dX6_bestOf_55 : decode cX6_bestOf 55 = .ok (.aload_n 0, 1) := by decide +kernel
theorem dX6_bestOf_56 : decode cX6_bestOf 56 = .ok (.aload_n 0, 1) := by decide +kernel
theorem dX6_bestOf_57 : decode cX6_bestOf 57 = .ok (.iload_n 1, 1) := by decide +kernel
theorem dX6_bestOf_58 : decode cX6_bestOf 58 = .ok (.invokevirtual 130, 3) := by decide +kernel
theorem dX6_bestOf_61 : decode cX6_bestOf 61 = .ok (.iload_n 3, 1) := by decide +kernel
theorem dX6_bestOf_62 : decode cX6_bestOf 62 = .ok (.invokevirtual 148, 3) := by decide +kernel
theorem dX6_bestOf_65 : decode cX6_bestOf 65 = .ok (.aload_n 0, 1) := by decide +kernel
theorem dX6_bestOf_66 : decode cX6_bestOf 66 = .ok (.iload_n 1, 1) := by decide +kernel
theorem dX6_bestOf_67 : decode cX6_bestOf 67 = .ok (.invokevirtual 151, 3) := by decide +kernel
theorem dX6_bestOf_70 : decode cX6_bestOf 70 = .ok (.if_icmp .gt 7, 3) := by decide +kernel
theorem dX6_bestOf_73 : decode cX6_bestOf 73 = .ok (.iload_n 3, 1) := by decide +kernel
theorem dX6_bestOf_74 : decode cX6_bestOf 74 = .ok (.goto 4, 3) := by decide +kernel
theorem dX6_bestOf_77 : decode cX6_bestOf 77 = .ok (.iload_n 2, 1) := by decide +kernel
theorem dX6_bestOf_78 : decode cX6_bestOf 78 = .ok (.istore_n 2, 1) := by decide +kernel
theorem dX6_bestOf_79 : decode cX6_bestOf 79 = .ok (.iinc 3 1, 3) := by decide +kernel
theorem dX6_bestOf_82 : decode cX6_bestOf 82 = .ok (.goto (-78), 3) := by decide +kernel
theorem dX6_bestOf_85 : decode cX6_bestOf 85 = .ok (.iload_n 2, 1) := by decide +kernel
theorem dX6_bestOf_86 : decode cX6_bestOf 86 = .ok (.ireturn, 1) := by decide +kernel
theorem dX6_best_0 : decode cX6_best 0 = .ok (.iload_n 1, 1) := by decide +kernel
theorem dX6_best_1 : decode cX6_best 1 = .ok (.invokestatic 104, 3) := by decide +kernel
theorem dX6_best_4 : decode cX6_best 4 = .ok (.ifCond .eq 11, 3) := by decide +kernel
theorem dX6_best_7 : decode cX6_best 7 = .ok (.aload_n 0, 1) := by decide +kernel
theorem dX6_best_8 : decode cX6_best 8 = .ok (.iload_n 1, 1) := by decide +kernel
theorem dX6_best_9 : decode cX6_best 9 = .ok (.invokevirtual 154, 3) := by decide +kernel
theorem dX6_best_12 : decode cX6_best 12 = .ok (.goto 8, 3) := by decide +kernel
theorem dX6_best_15 : decode cX6_best 15 = .ok (.aload_n 0, 1) := by decide +kernel
theorem dX6_best_16 : decode cX6_best 16 = .ok (.iconst 0, 1) := by decide +kernel
theorem dX6_best_17 : decode cX6_best 17 = .ok (.invokevirtual 94, 3) := by decide +kernel
theorem dX6_best_20 : decode cX6_best 20 = .ok (.ireturn, 1) := by decide +kernel
theorem dX6_bestWorth_0 : decode cX6_bestWorth 0 = .ok (.iload_n 1, 1) := by decide +kernel
theorem dX6_bestWorth_1 : decode cX6_bestWorth 1 = .ok (.invokestatic 104, 3) := by decide +kernel
theorem dX6_bestWorth_4 : decode cX6_bestWorth 4 = .ok (.ifCond .eq 15, 3) := by decide +kernel
theorem dX6_bestWorth_7 : decode cX6_bestWorth 7 = .ok (.aload_n 0, 1) := by decide +kernel
theorem dX6_bestWorth_8 : decode cX6_bestWorth 8 = .ok (.aload_n 0, 1) := by decide +kernel
theorem dX6_bestWorth_9 : decode cX6_bestWorth 9 = .ok (.iload_n 1, 1) := by decide +kernel
theorem dX6_bestWorth_10 : decode cX6_bestWorth 10 = .ok (.invokevirtual 154, 3) := by decide +kernel
theorem dX6_bestWorth_13 : decode cX6_bestWorth 13 = .ok (.invokevirtual 127, 3) := by decide +kernel
theorem dX6_bestWorth_16 : decode cX6_bestWorth 16 = .ok (.goto 8, 3) := by decide +kernel
theorem dX6_bestWorth_19 : decode cX6_bestWorth 19 = .ok (.aload_n 0, 1) := by decide +kernel
theorem dX6_bestWorth_20 : decode cX6_bestWorth 20 = .ok (.iconst 0, 1) := by decide +kernel
theorem dX6_bestWorth_21 : decode cX6_bestWorth 21 = .ok (.invokevirtual 94, 3) := by decide +kernel
theorem dX6_bestWorth_24 : decode cX6_bestWorth 24 = .ok (.ireturn, 1) := by decide +kernel
theorem dX6_from_0 : decode cX6_from 0 = .ok (.iload_n 1, 1) := by decide +kernel
theorem dX6_from_1 : decode cX6_from 1 = .ok (.invokestatic 104, 3) := by decide +kernel
theorem dX6_from_4 : decode cX6_from 4 = .ok (.ifCond .eq 11, 3) := by decide +kernel
theorem dX6_from_7 : decode cX6_from 7 = .ok (.aload_n 0, 1) := by decide +kernel
theorem dX6_from_8 : decode cX6_from 8 = .ok (.iload_n 2, 1) := by decide +kernel
theorem dX6_from_9 : decode cX6_from 9 = .ok (.invokevirtual 145, 3) := by decide +kernel
theorem dX6_from_12 : decode cX6_from 12 = .ok (.ifCond .ne 9, 3) := by decide +kernel
theorem dX6_from_15 : decode cX6_from 15 = .ok (.aload_n 0, 1) := by decide +kernel
theorem dX6_from_16 : decode cX6_from 16 = .ok (.iconst 0, 1) := by decide +kernel
theorem dX6_from_17 : decode cX6_from 17 = .ok (.invokevirtual 94, 3) := by decide +kernel
theorem dX6_from_20 : decode cX6_from 20 = .ok (.ireturn, 1) := by decide +kernel
theorem dX6_from_21 : decode cX6_from 21 = .ok (.iconst 0, 1) := by decide +kernel
theorem dX6_from_22 : decode cX6_from 22 = .ok (.istore_n 3, 1) := by decide +kernel
theorem dX6_from_23 : decode cX6_from 23 = .ok (.iconst 1, 1) := by decide +kernel
theorem dX6_from_24 : decode cX6_from 24 = .ok (.istore 4, 2) := by decide +kernel
theorem dX6_from_26 : decode cX6_from 26 = .ok (.iload 4, 2) := by decide +kernel
theorem dX6_from_28 : decode cX6_from 28 = .ok (.bipush 100, 2) := by decide +kernel
theorem dX6_from_30 : decode cX6_from 30 = .ok (.if_icmp .ge 32, 3) := by decide +kernel
theorem dX6_from_33 : decode cX6_from 33 = .ok (.aload_n 0, 1) := by decide +kernel
theorem dX6_from_34 : decode cX6_from 34 = .ok (.iload 4, 2) := by decide +kernel
theorem dX6_from_36 : decode cX6_from 36 = .ok (.iload_n 2, 1) := by decide +kernel
theorem dX6_from_37 : decode cX6_from 37 = .ok (.invokevirtual 148, 3) := by decide +kernel
theorem dX6_from_40 : decode cX6_from 40 = .ok (.aload_n 0, 1) := by decide +kernel
theorem dX6_from_41 : decode cX6_from 41 = .ok (.iload_n 3, 1) := by decide +kernel
theorem dX6_from_42 : decode cX6_from 42 = .ok (.iload_n 2, 1) := by decide +kernel
theorem dX6_from_43 : decode cX6_from 43 = .ok (.invokevirtual 148, 3) := by decide +kernel
theorem dX6_from_46 : decode cX6_from 46 = .ok (.if_icmp .ge 8, 3) := by decide +kernel
theorem dX6_from_49 : decode cX6_from 49 = .ok (.iload 4, 2) := by decide +kernel
theorem dX6_from_51 : decode cX6_from 51 = .ok (.goto 4, 3) := by decide +kernel
theorem dX6_from_54 : decode cX6_from 54 = .ok (.iload_n 3, 1) := by decide +kernel
theorem dX6_from_55 : decode cX6_from 55 = .ok (.istore_n 3, 1) := by decide +kernel
theorem dX6_from_56 : decode cX6_from 56 = .ok (.iinc 4 1, 3) := by decide +kernel
theorem dX6_from_59 : decode cX6_from 59 = .ok (.goto (-33), 3) := by decide +kernel
theorem dX6_from_62 : decode cX6_from 62 = .ok (.iload_n 3, 1) := by decide +kernel
theorem dX6_from_63 : decode cX6_from 63 = .ok (.ireturn, 1) := by decide +kernel
theorem dX6_longerOf_0 : decode cX6_longerOf 0 = .ok (.aload_n 0, 1) := by decide +kernel
theorem dX6_longerOf_1 : decode cX6_longerOf 1 = .ok (.aload_n 0, 1) := by decide +kernel
theorem dX6_longerOf_2 : decode cX6_longerOf 2 = .ok (.iload_n 1, 1) := by decide +kernel
theorem dX6_longerOf_3 : decode cX6_longerOf 3 = .ok (.invokevirtual 130, 3) := by decide +kernel
theorem dX6_longerOf_6 : decode cX6_longerOf 6 = .ok (.iload_n 3, 1) := by decide +kernel
theorem dX6_longerOf_7 : decode cX6_longerOf 7 = .ok (.invokevirtual 148, 3) := by decide +kernel
theorem dX6_longerOf_10 : decode cX6_longerOf 10 = .ok (.aload_n 0, 1) := by decide +kernel
theorem dX6_longerOf_11 : decode cX6_longerOf 11 = .ok (.aload_n 0, 1) := by decide +kernel
theorem dX6_longerOf_12 : decode cX6_longerOf 12 = .ok (.iload_n 2, 1) := by decide +kernel
theorem dX6_longerOf_13 : decode cX6_longerOf 13 = .ok (.invokevirtual 130, 3) := by decide +kernel
theorem dX6_longerOf_16 : decode cX6_longerOf 16 = .ok (.iload 4, 2) := by decide +kernel
theorem dX6_longerOf_18 : decode cX6_longerOf 18 = .ok (.invokevirtual 148, 3) := by decide +kernel
theorem dX6_longerOf_21 : decode cX6_longerOf 21 = .ok (.invokestatic 77, 3) := by decide +kernel
theorem dX6_longerOf_24 : decode cX6_longerOf 24 = .ok (.ireturn, 1) := by decide +kernel
theorem dX6_bestShare_0 : decode cX6_bestShare 0 = .ok (.iconst (-1), 1) := by decide +kernel
theorem dX6_bestShare_1 : decode cX6_bestShare 1 = .ok (.istore 4, 2) := by decide +kernel
theorem dX6_bestShare_3 : decode cX6_bestShare 3 = .ok (.iconst 0, 1) := by decide +kernel
theorem dX6_bestShare_4 : decode cX6_bestShare 4 = .ok (.istore 5, 2) := by decide +kernel
theorem dX6_bestShare_6 : decode cX6_bestShare 6 = .ok (.iconst 0, 1) := by decide +kernel
theorem dX6_bestShare_7 : decode cX6_bestShare 7 = .ok (.istore 6, 2) := by decide +kernel
theorem dX6_bestShare_9 : decode cX6_bestShare 9 = .ok (.iload 6, 2) := by decide +kernel
theorem dX6_bestShare_11 : decode cX6_bestShare 11 = .ok (.iload_n 3, 1) := by decide +kernel
theorem dX6_bestShare_12 : decode cX6_bestShare 12 = .ok (.if_icmp .gt 81, 3) := by decide +kernel
theorem dX6_bestShare_15 : decode cX6_bestShare 15 = .ok (.iload 6, 2) := by decide +kernel
theorem dX6_bestShare_17 : decode cX6_bestShare 17 = .ok (.iload_n 3, 1) := by decide +kernel
theorem dX6_bestShare_18 : decode cX6_bestShare 18 = .ok (.iconst (-1), 1) := by decide +kernel
theorem dX6_bestShare_19 : decode cX6_bestShare 19 = .ok (.ixor, 1) := by decide +kernel
theorem dX6_bestShare_20 : decode cX6_bestShare 20 = .ok (.iand, 1) := by decide +kernel
theorem dX6_bestShare_21 : decode cX6_bestShare 21 = .ok (.ifCond .ne 66, 3) := by decide +kernel
theorem dX6_bestShare_24 : decode cX6_bestShare 24 = .ok (.aload_n 0, 1) := by decide +kernel
theorem dX6_bestShare_25 : decode cX6_bestShare 25 = .ok (.iload_n 1, 1) := by decide +kernel
theorem dX6_bestShare_26 : decode cX6_bestShare 26 = .ok (.iload_n 2, 1) := by decide +kernel
theorem dX6_bestShare_27 : decode cX6_bestShare 27 = .ok (.iload 6, 2) := by decide +kernel
theorem dX6_bestShare_29 : decode cX6_bestShare 29 = .ok (.iload_n 3, 1) := by decide +kernel
theorem dX6_bestShare_30 : decode cX6_bestShare 30 = .ok (.iload 6, 2) := by decide +kernel
theorem dX6_bestShare_32 : decode cX6_bestShare 32 = .ok (.iconst (-1), 1) := by decide +kernel
theorem dX6_bestShare_33 : decode cX6_bestShare 33 = .ok (.ixor, 1) := by decide +kernel
theorem dX6_bestShare_34 : decode cX6_bestShare 34 = .ok (.iand, 1) := by decide +kernel
theorem dX6_bestShare_35 : decode cX6_bestShare 35 = .ok (.invokevirtual 157, 3) := by decide +kernel
theorem dX6_bestShare_38 : decode cX6_bestShare 38 = .ok (.istore 7, 2) := by decide +kernel
theorem dX6_bestShare_40 : decode cX6_bestShare 40 = .ok (.iload 4, 2) := by decide +kernel
theorem dX6_bestShare_42 : decode cX6_bestShare 42 = .ok (.ifCond .lt 10, 3) := by decide +kernel
theorem dX6_bestShare_45 : decode cX6_bestShare 45 = .ok (.iload 7, 2) := by decide +kernel
theorem dX6_bestShare_47 : decode cX6_bestShare 47 = .ok (.iload 5, 2) := by decide +kernel
theorem dX6_bestShare_49 : decode cX6_bestShare 49 = .ok (.if_icmp .ge 7, 3) := by decide +kernel
theorem dX6_bestShare_52 : decode cX6_bestShare 52 = .ok (.iconst 1, 1) := by decide +kernel
theorem dX6_bestShare_53 : decode cX6_bestShare 53 = .ok (.goto 4, 3) := by decide +kernel
theorem dX6_bestShare_56 : decode cX6_bestShare 56 = .ok (.iconst 0, 1) := by decide +kernel
theorem dX6_bestShare_57 : decode cX6_bestShare 57 = .ok (.istore 8, 2) := by decide +kernel
theorem dX6_bestShare_59 : decode cX6_bestShare 59 = .ok (.iload 8, 2) := by decide +kernel
theorem dX6_bestShare_61 : decode cX6_bestShare 61 = .ok (.ifCond .eq 8, 3) := by decide +kernel
theorem dX6_bestShare_64 : decode cX6_bestShare 64 = .ok (.iload 6, 2) := by decide +kernel
theorem dX6_bestShare_66 : decode cX6_bestShare 66 = .ok (.goto 5, 3) := by decide +kernel
theorem dX6_bestShare_69 : decode cX6_bestShare 69 = .ok (.iload 4, 2) := by decide +kernel
theorem dX6_bestShare_71 : decode cX6_bestShare 71 = .ok (.istore 4, 2) := by decide +kernel
theorem dX6_bestShare_73 : decode cX6_bestShare 73 = .ok (.iload 8, 2) := by decide +kernel
theorem dX6_bestShare_75 : decode cX6_bestShare 75 = .ok (.ifCond .eq 8, 3) := by decide +kernel
theorem dX6_bestShare_78 : decode cX6_bestShare 78 = .ok (.iload 7, 2) := by decide +kernel
theorem dX6_bestShare_80 : decode cX6_bestShare 80 = .ok (.goto 5, 3) := by decide +kernel
theorem dX6_bestShare_83 : decode cX6_bestShare 83 = .ok (.iload 5, 2) := by decide +kernel
theorem dX6_bestShare_85 : decode cX6_bestShare 85 = .ok (.istore 5, 2) := by decide +kernel
theorem dX6_bestShare_87 : decode cX6_bestShare 87 = .ok (.iinc 6 1, 3) := by decide +kernel
theorem dX6_bestShare_90 : decode cX6_bestShare 90 = .ok (.goto (-81), 3) := by decide +kernel
theorem dX6_bestShare_93 : decode cX6_bestShare 93 = .ok (.iload 4, 2) := by decide +kernel
theorem dX6_bestShare_95 : decode cX6_bestShare 95 = .ok (.ireturn, 1) := by decide +kernel
theorem dX6_canShare_0 : decode cX6_canShare 0 = .ok (.iload_n 1, 1) := by decide +kernel
theorem dX6_canShare_1 : decode cX6_canShare 1 = .ok (.invokestatic 104, 3) := by decide +kernel
theorem dX6_canShare_4 : decode cX6_canShare 4 = .ok (.ifCond .eq 27, 3) := by decide +kernel
theorem dX6_canShare_7 : decode cX6_canShare 7 = .ok (.iload_n 2, 1) := by decide +kernel
theorem dX6_canShare_8 : decode cX6_canShare 8 = .ok (.invokestatic 104, 3) := by decide +kernel
theorem dX6_canShare_11 : decode cX6_canShare 11 = .ok (.ifCond .eq 20, 3) := by decide +kernel
theorem dX6_canShare_14 : decode cX6_canShare 14 = .ok (.iload_n 1, 1) := by decide +kernel
theorem dX6_canShare_15 : decode cX6_canShare 15 = .ok (.iload_n 2, 1) := by decide +kernel
theorem dX6_canShare_16 : decode cX6_canShare 16 = .ok (.if_icmp .eq 15, 3) := by decide +kernel
theorem dX6_canShare_19 : decode cX6_canShare 19 = .ok (.aload_n 0, 1) := by decide +kernel
theorem dX6_canShare_20 : decode cX6_canShare 20 = .ok (.iload_n 3, 1) := by decide +kernel
theorem dX6_canShare_21 : decode cX6_canShare 21 = .ok (.invokevirtual 145, 3) := by decide +kernel
theorem dX6_canShare_24 : decode cX6_canShare 24 = .ok (.ifCond .eq 7, 3) := by decide +kernel
theorem dX6_canShare_27 : decode cX6_canShare 27 = .ok (.iconst 1, 1) := by decide +kernel
theorem dX6_canShare_28 : decode cX6_canShare 28 = .ok (.goto 4, 3) := by decide +kernel
theorem dX6_canShare_31 : decode cX6_canShare 31 = .ok (.iconst 0, 1) := by decide +kernel
theorem dX6_canShare_32 : decode cX6_canShare 32 = .ok (.ireturn, 1) := by decide +kernel
theorem dX6_share_0 : decode cX6_share 0 = .ok (.aload_n 0, 1) := by decide +kernel
theorem dX6_share_1 : decode cX6_share 1 = .ok (.iload_n 1, 1) := by decide +kernel
theorem dX6_share_2 : decode cX6_share 2 = .ok (.iload_n 2, 1) := by decide +kernel
theorem dX6_share_3 : decode cX6_share 3 = .ok (.iload_n 3, 1) := by decide +kernel
theorem dX6_share_4 : decode cX6_share 4 = .ok (.invokevirtual 161, 3) := by decide +kernel
theorem dX6_share_7 : decode cX6_share 7 = .ok (.ifCond .eq 13, 3) := by decide +kernel
theorem dX6_share_10 : decode cX6_share 10 = .ok (.aload_n 0, 1) := by decide +kernel
theorem dX6_share_11 : decode cX6_share 11 = .ok (.iload_n 1, 1) := by decide +kernel
theorem dX6_share_12 : decode cX6_share 12 = .ok (.iload_n 2, 1) := by decide +kernel
theorem dX6_share_13 : decode cX6_share 13 = .ok (.iload_n 3, 1) := by decide +kernel
theorem dX6_share_14 : decode cX6_share 14 = .ok (.invokevirtual 164, 3) := by decide +kernel
theorem dX6_share_17 : decode cX6_share 17 = .ok (.goto 8, 3) := by decide +kernel
theorem dX6_share_20 : decode cX6_share 20 = .ok (.aload_n 0, 1) := by decide +kernel
theorem dX6_share_21 : decode cX6_share 21 = .ok (.iconst 0, 1) := by decide +kernel
theorem dX6_share_22 : decode cX6_share 22 = .ok (.invokevirtual 94, 3) := by decide +kernel
theorem dX6_share_25 : decode cX6_share 25 = .ok (.ireturn, 1) := by decide +kernel
theorem dX6_longer_0 : decode cX6_longer 0 = .ok (.aload_n 0, 1) := by decide +kernel
theorem dX6_longer_1 : decode cX6_longer 1 = .ok (.iload_n 1, 1) := by decide +kernel
theorem dX6_longer_2 : decode cX6_longer 2 = .ok (.iload_n 2, 1) := by decide +kernel
theorem dX6_longer_3 : decode cX6_longer 3 = .ok (.iload_n 3, 1) := by decide +kernel
theorem dX6_longer_4 : decode cX6_longer 4 = .ok (.invokevirtual 161, 3) := by decide +kernel
theorem dX6_longer_7 : decode cX6_longer 7 = .ok (.ifCond .ne 9, 3) := by decide +kernel
theorem dX6_longer_10 : decode cX6_longer 10 = .ok (.aload_n 0, 1) := by decide +kernel
theorem dX6_longer_11 : decode cX6_longer 11 = .ok (.iconst 0, 1) := by decide +kernel
theorem dX6_longer_12 : decode cX6_longer 12 = .ok (.invokevirtual 94, 3) := by decide +kernel
theorem dX6_longer_15 : decode cX6_longer 15 = .ok (.ireturn, 1) := by decide +kernel
theorem dX6_longer_16 : decode cX6_longer 16 = .ok (.aload_n 0, 1) := by decide +kernel
theorem dX6_longer_17 : decode cX6_longer 17 = .ok (.iload_n 1, 1) := by decide +kernel
theorem dX6_longer_18 : decode cX6_longer 18 = .ok (.iload_n 2, 1) := by decide +kernel
theorem dX6_longer_19 : decode cX6_longer 19 = .ok (.iload_n 3, 1) := by decide +kernel
theorem dX6_longer_20 : decode cX6_longer 20 = .ok (.invokevirtual 164, 3) := by decide +kernel
theorem dX6_longer_23 : decode cX6_longer 23 = .ok (.istore 4, 2) := by decide +kernel
theorem dX6_longer_25 : decode cX6_longer 25 = .ok (.aload_n 0, 1) := by decide +kernel
theorem dX6_longer_26 : decode cX6_longer 26 = .ok (.iload_n 1, 1) := by decide +kernel
theorem dX6_longer_27 : decode cX6_longer 27 = .ok (.iload_n 2, 1) := by decide +kernel
theorem dX6_longer_28 : decode cX6_longer 28 = .ok (.iload 4, 2) := by decide +kernel
theorem dX6_longer_30 : decode cX6_longer 30 = .ok (.iload_n 3, 1) := by decide +kernel
theorem dX6_longer_31 : decode cX6_longer 31 = .ok (.iload 4, 2) := by decide +kernel
theorem dX6_longer_33 : decode cX6_longer 33 = .ok (.iconst (-1), 1) := by decide +kernel
theorem dX6_longer_34 : decode cX6_longer 34 = .ok (.ixor, 1) := by decide +kernel
theorem dX6_longer_35 : decode cX6_longer 35 = .ok (.iand, 1) := by decide +kernel
theorem dX6_longer_36 : decode cX6_longer 36 = .ok (.invokevirtual 157, 3) := by decide +kernel
theorem dX6_longer_39 : decode cX6_longer 39 = .ok (.ireturn, 1) := by decide +kernel
theorem dX6_addsSign_0 : decode cX6_addsSign 0 = .ok (.aload_n 0, 1) := by decide +kernel
theorem dX6_addsSign_1 : decode cX6_addsSign 1 = .ok (.getfield 9, 3) := by decide +kernel
theorem dX6_addsSign_4 : decode cX6_addsSign 4 = .ok (.bipush 56, 2) := by decide +kernel
theorem dX6_addsSign_6 : decode cX6_addsSign 6 = .ok (.aload_n 0, 1) := by decide +kernel
theorem dX6_addsSign_7 : decode cX6_addsSign 7 = .ok (.getfield 9, 3) := by decide +kernel
theorem dX6_addsSign_10 : decode cX6_addsSign 10 = .ok (.iconst 2, 1) := by decide +kernel
theorem dX6_addsSign_11 : decode cX6_addsSign 11 = .ok (.iaload, 1) := by decide +kernel
theorem dX6_addsSign_12 : decode cX6_addsSign 12 = .ok (.iadd, 1) := by decide +kernel
theorem dX6_addsSign_13 : decode cX6_addsSign 13 = .ok (.iload_n 1, 1) := by decide +kernel
theorem dX6_addsSign_14 : decode cX6_addsSign 14 = .ok (.iastore, 1) := by decide +kernel
theorem dX6_addsSign_15 : decode cX6_addsSign 15 = .ok (.aload_n 0, 1) := by decide +kernel
theorem dX6_addsSign_16 : decode cX6_addsSign 16 = .ok (.getfield 9, 3) := by decide +kernel
theorem dX6_addsSign_19 : decode cX6_addsSign 19 = .ok (.iconst 2, 1) := by decide +kernel
theorem dX6_addsSign_20 : decode cX6_addsSign 20 = .ok (.dup2, 1) := by decide +kernel
theorem dX6_addsSign_21 : decode cX6_addsSign 21 = .ok (.iaload, 1) := by decide +kernel
theorem dX6_addsSign_22 : decode cX6_addsSign 22 = .ok (.iconst 1, 1) := by decide +kernel
theorem dX6_addsSign_23 : decode cX6_addsSign 23 = .ok (.iadd, 1) := by decide +kernel
theorem dX6_addsSign_24 : decode cX6_addsSign 24 = .ok (.iastore, 1) := by decide +kernel
theorem dX6_addsSign_25 : decode cX6_addsSign 25 = .ok (.return_, 1) := by decide +kernel
theorem dX6_sign_0 : decode cX6_sign 0 = .ok (.aload_n 0, 1) := by decide +kernel
theorem dX6_sign_1 : decode cX6_sign 1 = .ok (.iload_n 1, 1) := by decide +kernel
theorem dX6_sign_2 : decode cX6_sign 2 = .ok (.invokevirtual 145, 3) := by decide +kernel
theorem dX6_sign_5 : decode cX6_sign 5 = .ok (.ifCond .eq 7, 3) := by decide +kernel
theorem dX6_sign_8 : decode cX6_sign 8 = .ok (.iload_n 1, 1) := by decide +kernel
theorem dX6_sign_9 : decode cX6_sign 9 = .ok (.ifCond .ne 9, 3) := by decide +kernel
theorem dX6_sign_12 : decode cX6_sign 12 = .ok (.aload_n 0, 1) := by decide +kernel
theorem dX6_sign_13 : decode cX6_sign 13 = .ok (.iconst 0, 1) := by decide +kernel
theorem dX6_sign_14 : decode cX6_sign 14 = .ok (.invokevirtual 94, 3) := by decide +kernel
theorem dX6_sign_17 : decode cX6_sign 17 = .ok (.ireturn, 1) := by decide +kernel
theorem dX6_sign_18 : decode cX6_sign 18 = .ok (.aload_n 0, 1) := by decide +kernel
theorem dX6_sign_19 : decode cX6_sign 19 = .ok (.getfield 9, 3) := by decide +kernel
theorem dX6_sign_22 : decode cX6_sign 22 = .ok (.iconst 2, 1) := by decide +kernel
theorem dX6_sign_23 : decode cX6_sign 23 = .ok (.iaload, 1) := by decide +kernel
theorem dX6_sign_24 : decode cX6_sign 24 = .ok (.bipush 6, 2) := by decide +kernel
theorem dX6_sign_26 : decode cX6_sign 26 = .ok (.if_icmp .ne 9, 3) := by decide +kernel
theorem dX6_sign_29 : decode cX6_sign 29 = .ok (.aload_n 0, 1) := by decide +kernel
theorem dX6_sign_30 : decode cX6_sign 30 = .ok (.iconst 1, 1) := by decide +kernel
theorem dX6_sign_31 : decode cX6_sign 31 = .ok (.invokevirtual 94, 3) := by decide +kernel
theorem dX6_sign_34 : decode cX6_sign 34 = .ok (.ireturn, 1) := by decide +kernel
theorem dX6_sign_35 : decode cX6_sign 35 = .ok (.aload_n 0, 1) := by decide +kernel
theorem dX6_sign_36 : decode cX6_sign 36 = .ok (.iload_n 1, 1) := by decide +kernel
theorem dX6_sign_37 : decode cX6_sign 37 = .ok (.invokevirtual 168, 3) := by decide +kernel
theorem dX6_sign_40 : decode cX6_sign 40 = .ok (.aload_n 0, 1) := by decide +kernel
theorem dX6_sign_41 : decode cX6_sign 41 = .ok (.getfield 9, 3) := by decide +kernel
theorem dX6_sign_44 : decode cX6_sign 44 = .ok (.iconst 2, 1) := by decide +kernel
theorem dX6_sign_45 : decode cX6_sign 45 = .ok (.iaload, 1) := by decide +kernel
theorem dX6_sign_46 : decode cX6_sign 46 = .ok (.iconst 1, 1) := by decide +kernel
theorem dX6_sign_47 : decode cX6_sign 47 = .ok (.isub, 1) := by decide +kernel
theorem dX6_sign_48 : decode cX6_sign 48 = .ok (.ireturn, 1) := by decide +kernel
theorem dX6_isSign_0 : decode cX6_isSign 0 = .ok (.iload_n 1, 1) := by decide +kernel
theorem dX6_isSign_1 : decode cX6_isSign 1 = .ok (.iconst 0, 1) := by decide +kernel
theorem dX6_isSign_2 : decode cX6_isSign 2 = .ok (.aload_n 0, 1) := by decide +kernel
theorem dX6_isSign_3 : decode cX6_isSign 3 = .ok (.getfield 9, 3) := by decide +kernel
theorem dX6_isSign_6 : decode cX6_isSign 6 = .ok (.iconst 2, 1) := by decide +kernel
theorem dX6_isSign_7 : decode cX6_isSign 7 = .ok (.iaload, 1) := by decide +kernel
theorem dX6_isSign_8 : decode cX6_isSign 8 = .ok (.iconst 1, 1) := by decide +kernel
theorem dX6_isSign_9 : decode cX6_isSign 9 = .ok (.isub, 1) := by decide +kernel
theorem dX6_isSign_10 : decode cX6_isSign 10 = .ok (.invokestatic 54, 3) := by decide +kernel
theorem dX6_isSign_13 : decode cX6_isSign 13 = .ok (.ireturn, 1) := by decide +kernel
theorem dX6_signOf_0 : decode cX6_signOf 0 = .ok (.aload_n 0, 1) := by decide +kernel
theorem dX6_signOf_1 : decode cX6_signOf 1 = .ok (.iload_n 1, 1) := by decide +kernel
theorem dX6_signOf_2 : decode cX6_signOf 2 = .ok (.invokevirtual 171, 3) := by decide +kernel
theorem dX6_signOf_5 : decode cX6_signOf 5 = .ok (.ifCond .eq 15, 3) := by decide +kernel
theorem dX6_signOf_8 : decode cX6_signOf 8 = .ok (.aload_n 0, 1) := by decide +kernel
theorem dX6_signOf_9 : decode cX6_signOf 9 = .ok (.getfield 9, 3) := by decide +kernel
theorem dX6_signOf_12 : decode cX6_signOf 12 = .ok (.bipush 56, 2) := by decide +kernel
theorem dX6_signOf_14 : decode cX6_signOf 14 = .ok (.iload_n 1, 1) := by decide +kernel
theorem dX6_signOf_15 : decode cX6_signOf 15 = .ok (.iadd, 1) := by decide +kernel
theorem dX6_signOf_16 : decode cX6_signOf 16 = .ok (.iaload, 1) := by decide +kernel
theorem dX6_signOf_17 : decode cX6_signOf 17 = .ok (.goto 8, 3) := by decide +kernel
theorem dX6_signOf_20 : decode cX6_signOf 20 = .ok (.aload_n 0, 1) := by decide +kernel
theorem dX6_signOf_21 : decode cX6_signOf 21 = .ok (.iconst 0, 1) := by decide +kernel
theorem dX6_signOf_22 : decode cX6_signOf 22 = .ok (.invokevirtual 94, 3) := by decide +kernel
theorem dX6_signOf_25 : decode cX6_signOf 25 = .ok (.ireturn, 1) := by decide +kernel
theorem dX6_mayBe_0 : decode cX6_mayBe 0 = .ok (.iconst 0, 1) := by decide +kernel
theorem dX6_mayBe_1 : decode cX6_mayBe 1 = .ok (.istore_n 2, 1) := by decide +kernel
theorem dX6_mayBe_2 : decode cX6_mayBe 2 = .ok (.iconst 0, 1) := by decide +kernel
theorem dX6_mayBe_3 : decode cX6_mayBe 3 = .ok (.istore_n 3, 1) := by decide +kernel
theorem dX6_mayBe_4 : decode cX6_mayBe 4 = .ok (.iload_n 3, 1) := by decide +kernel
theorem dX6_mayBe_5 : decode cX6_mayBe 5 = .ok (.aload_n 0, 1) := by decide +kernel
theorem dX6_mayBe_6 : decode cX6_mayBe 6 = .ok (.getfield 9, 3) := by decide +kernel
theorem dX6_mayBe_9 : decode cX6_mayBe 9 = .ok (.iconst 2, 1) := by decide +kernel
theorem dX6_mayBe_10 : decode cX6_mayBe 10 = .ok (.iaload, 1) := by decide +kernel
theorem dX6_mayBe_11 : decode cX6_mayBe 11 = .ok (.if_icmp .ge 35, 3) := by decide +kernel
theorem dX6_mayBe_14 : decode cX6_mayBe 14 = .ok (.iload_n 2, 1) := by decide +kernel
theorem dX6_mayBe_15 : decode cX6_mayBe 15 = .ok (.iload_n 1, 1) := by decide +kernel
theorem dX6_mayBe_16 : decode cX6_mayBe 16 = .ok (.aload_n 0, 1) := by decide +kernel
theorem dX6_mayBe_17 : decode cX6_mayBe 17 = .ok (.getfield 9, 3) := by decide +kernel
theorem dX6_mayBe_20 : decode cX6_mayBe 20 = .ok (.bipush 56, 2) := by decide +kernel
theorem dX6_mayBe_22 : decode cX6_mayBe 22 = .ok (.iload_n 3, 1) := by decide +kernel
theorem dX6_mayBe_23 : decode cX6_mayBe 23 = .ok (.iadd, 1) := by decide +kernel
theorem dX6_mayBe_24 : decode cX6_mayBe 24 = .ok (.iaload, 1) := by decide +kernel
theorem dX6_mayBe_25 : decode cX6_mayBe 25 = .ok (.iconst (-1), 1) := by decide +kernel
theorem dX6_mayBe_26 : decode cX6_mayBe 26 = .ok (.ixor, 1) := by decide +kernel
theorem dX6_mayBe_27 : decode cX6_mayBe 27 = .ok (.iand, 1) := by decide +kernel
theorem dX6_mayBe_28 : decode cX6_mayBe 28 = .ok (.ifCond .ne 9, 3) := by decide +kernel
theorem dX6_mayBe_31 : decode cX6_mayBe 31 = .ok (.iconst 1, 1) := by decide +kernel
theorem dX6_mayBe_32 : decode cX6_mayBe 32 = .ok (.iload_n 3, 1) := by decide +kernel
theorem dX6_mayBe_33 : decode cX6_mayBe 33 = .ok (.ishl, 1) := by decide +kernel
theorem dX6_mayBe_34 : decode cX6_mayBe 34 = .ok (.goto 4, 3) := by decide +kernel
theorem dX6_mayBe_37 : decode cX6_mayBe 37 = .ok (.iconst 0, 1) := by decide +kernel
theorem dX6_mayBe_38 : decode cX6_mayBe 38 = .ok (.ior, 1) := by decide +kernel
theorem dX6_mayBe_39 : decode cX6_mayBe 39 = .ok (.istore_n 2, 1) := by decide +kernel
theorem dX6_mayBe_40 : decode cX6_mayBe 40 = .ok (.iinc 3 1, 3) := by decide +kernel
theorem dX6_mayBe_43 : decode cX6_mayBe 43 = .ok (.goto (-39), 3) := by decide +kernel
theorem dX6_mayBe_46 : decode cX6_mayBe 46 = .ok (.iload_n 2, 1) := by decide +kernel
theorem dX6_mayBe_47 : decode cX6_mayBe 47 = .ok (.ireturn, 1) := by decide +kernel
theorem dX6_may_0 : decode cX6_may 0 = .ok (.aload_n 0, 1) := by decide +kernel
theorem dX6_may_1 : decode cX6_may 1 = .ok (.iload_n 1, 1) := by decide +kernel
theorem dX6_may_2 : decode cX6_may 2 = .ok (.invokevirtual 145, 3) := by decide +kernel
theorem dX6_may_5 : decode cX6_may 5 = .ok (.ifCond .eq 11, 3) := by decide +kernel
theorem dX6_may_8 : decode cX6_may 8 = .ok (.aload_n 0, 1) := by decide +kernel
theorem dX6_may_9 : decode cX6_may 9 = .ok (.iload_n 1, 1) := by decide +kernel
theorem dX6_may_10 : decode cX6_may 10 = .ok (.invokevirtual 174, 3) := by decide +kernel
theorem dX6_may_13 : decode cX6_may 13 = .ok (.goto 8, 3) := by decide +kernel
theorem dX6_may_16 : decode cX6_may 16 = .ok (.aload_n 0, 1) := by decide +kernel
theorem dX6_may_17 : decode cX6_may 17 = .ok (.iconst 0, 1) := by decide +kernel
theorem dX6_may_18 : decode cX6_may 18 = .ok (.invokevirtual 94, 3) := by decide +kernel
theorem dX6_may_21 : decode cX6_may 21 = .ok (.ireturn, 1) := by decide +kernel
theorem dX6_tells_0 : decode cX6_tells 0 = .ok (.aload_n 0, 1) := by decide +kernel
theorem dX6_tells_1 : decode cX6_tells 1 = .ok (.iload_n 1, 1) := by decide +kernel
theorem dX6_tells_2 : decode cX6_tells 2 = .ok (.invokevirtual 171, 3) := by decide +kernel
theorem dX6_tells_5 : decode cX6_tells 5 = .ok (.ifCond .ne 9, 3) := by decide +kernel
theorem dX6_tells_8 : decode cX6_tells 8 = .ok (.aload_n 0, 1) := by decide +kernel
theorem dX6_tells_9 : decode cX6_tells 9 = .ok (.iconst 0, 1) := by decide +kernel
theorem dX6_tells_10 : decode cX6_tells 10 = .ok (.invokevirtual 94, 3) := by decide +kernel
theorem dX6_tells_13 : decode cX6_tells 13 = .ok (.ireturn, 1) := by decide +kernel
theorem dX6_tells_14 : decode cX6_tells 14 = .ok (.iconst (-1), 1) := by decide +kernel
theorem dX6_tells_15 : decode cX6_tells 15 = .ok (.istore_n 2, 1) := by decide +kernel
theorem dX6_tells_16 : decode cX6_tells 16 = .ok (.iconst 0, 1) := by decide +kernel
theorem dX6_tells_17 : decode cX6_tells 17 = .ok (.istore_n 3, 1) := by decide +kernel
theorem dX6_tells_18 : decode cX6_tells 18 = .ok (.iload_n 3, 1) := by decide +kernel
theorem dX6_tells_19 : decode cX6_tells 19 = .ok (.iconst 1, 1) := by decide +kernel
theorem dX6_tells_20 : decode cX6_tells 20 = .ok (.aload_n 0, 1) := by decide +kernel
theorem dX6_tells_21 : decode cX6_tells 21 = .ok (.getfield 9, 3) := by decide +kernel
theorem dX6_tells_24 : decode cX6_tells 24 = .ok (.iconst 1, 1) := by decide +kernel
theorem dX6_tells_25 : decode cX6_tells 25 = .ok (.iaload, 1) := by decide +kernel
theorem dX6_tells_26 : decode cX6_tells 26 = .ok (.ishl, 1) := by decide +kernel
theorem dX6_tells_27 : decode cX6_tells 27 = .ok (.if_icmp .ge 53, 3) := by decide +kernel
theorem dX6_tells_30 : decode cX6_tells 30 = .ok (.iload_n 2, 1) := by decide +kernel
theorem dX6_tells_31 : decode cX6_tells 31 = .ok (.ifCond .lt 14, 3) := by decide +kernel
theorem dX6_tells_34 : decode cX6_tells 34 = .ok (.iload_n 3, 1) := by decide +kernel
theorem dX6_tells_35 : decode cX6_tells 35 = .ok (.invokestatic 121, 3) := by decide +kernel
theorem dX6_tells_38 : decode cX6_tells 38 = .ok (.iload_n 2, 1) := by decide +kernel
theorem dX6_tells_39 : decode cX6_tells 39 = .ok (.invokestatic 121, 3) := by decide +kernel
theorem dX6_tells_42 : decode cX6_tells 42 = .ok (.if_icmp .ge 7, 3) := by decide +kernel
theorem dX6_tells_45 : decode cX6_tells 45 = .ok (.iconst 1, 1) := by decide +kernel
theorem dX6_tells_46 : decode cX6_tells 46 = .ok (.goto 4, 3) := by decide +kernel
theorem dX6_tells_49 : decode cX6_tells 49 = .ok (.iconst 0, 1) := by decide +kernel
theorem dX6_tells_50 : decode cX6_tells 50 = .ok (.istore 4, 2) := by decide +kernel
theorem dX6_tells_52 : decode cX6_tells 52 = .ok (.iload 4, 2) := by decide +kernel
theorem dX6_tells_54 : decode cX6_tells 54 = .ok (.ifCond .eq 18, 3) := by decide +kernel
theorem dX6_tells_57 : decode cX6_tells 57 = .ok (.aload_n 0, 1) := by decide +kernel
theorem dX6_tells_58 : decode cX6_tells 58 = .ok (.iload_n 3, 1) := by decide +kernel
theorem dX6_tells_59 : decode cX6_tells 59 = .ok (.invokevirtual 174, 3) := by decide +kernel
theorem dX6_tells_62 : decode cX6_tells 62 = .ok (.iconst 1, 1) := by decide +kernel
theorem dX6_tells_63 : decode cX6_tells 63 = .ok (.iload_n 1, 1) := by decide +kernel
theorem dX6_tells_64 : decode cX6_tells 64 = .ok (.ishl, 1) := by decide +kernel
theorem dX6_tells_65 : decode cX6_tells 65 = .ok (.if_icmp .ne 7, 3) := by decide +kernel
theorem dX6_tells_68 : decode cX6_tells 68 = .ok (.iload_n 3, 1) := by decide +kernel
theorem dX6_tells_69 : decode cX6_tells 69 = .ok (.goto 4, 3) := by decide +kernel
theorem dX6_tells_72 : decode cX6_tells 72 = .ok (.iload_n 2, 1) := by decide +kernel
theorem dX6_tells_73 : decode cX6_tells 73 = .ok (.istore_n 2, 1) := by decide +kernel
theorem dX6_tells_74 : decode cX6_tells 74 = .ok (.iinc 3 1, 3) := by decide +kernel
theorem dX6_tells_77 : decode cX6_tells 77 = .ok (.goto (-59), 3) := by decide +kernel
theorem dX6_tells_80 : decode cX6_tells 80 = .ok (.iload_n 2, 1) := by decide +kernel
theorem dX6_tells_81 : decode cX6_tells 81 = .ok (.ifCond .ge 11, 3) := by decide +kernel
theorem dX6_tells_84 : decode cX6_tells 84 = .ok (.aload_n 0, 1) := by decide +kernel
theorem dX6_tells_85 : decode cX6_tells 85 = .ok (.iconst 3, 1) := by decide +kernel
theorem dX6_tells_86 : decode cX6_tells 86 = .ok (.invokevirtual 94, 3) := by decide +kernel
theorem dX6_tells_89 : decode cX6_tells 89 = .ok (.goto 4, 3) := by decide +kernel
theorem dX6_tells_92 : decode cX6_tells 92 = .ok (.iload_n 2, 1) := by decide +kernel
theorem dX6_tells_93 : decode cX6_tells 93 = .ok (.ireturn, 1) := by decide +kernel
theorem dX6_told_0 : decode cX6_told 0 = .ok (.aload_n 0, 1) := by decide +kernel
theorem dX6_told_1 : decode cX6_told 1 = .ok (.invokevirtual 117, 3) := by decide +kernel
theorem dX6_told_4 : decode cX6_told 4 = .ok (.istore_n 1, 1) := by decide +kernel
theorem dX6_told_5 : decode cX6_told 5 = .ok (.iconst 0, 1) := by decide +kernel
theorem dX6_told_6 : decode cX6_told 6 = .ok (.istore_n 2, 1) := by decide +kernel
theorem dX6_told_7 : decode cX6_told 7 = .ok (.iconst 0, 1) := by decide +kernel
theorem dX6_told_8 : decode cX6_told 8 = .ok (.istore_n 3, 1) := by decide +kernel
theorem dX6_told_9 : decode cX6_told 9 = .ok (.iload_n 3, 1) := by decide +kernel
theorem dX6_told_10 : decode cX6_told 10 = .ok (.aload_n 0, 1) := by decide +kernel
theorem dX6_told_11 : decode cX6_told 11 = .ok (.getfield 9, 3) := by decide +kernel
theorem dX6_told_14 : decode cX6_told 14 = .ok (.iconst 2, 1) := by decide +kernel
theorem dX6_told_15 : decode cX6_told 15 = .ok (.iaload, 1) := by decide +kernel
theorem dX6_told_16 : decode cX6_told 16 = .ok (.if_icmp .ge 40, 3) := by decide +kernel
theorem dX6_told_19 : decode cX6_told 19 = .ok (.iload_n 2, 1) := by decide +kernel
theorem dX6_told_20 : decode cX6_told 20 = .ok (.aload_n 0, 1) := by decide +kernel
theorem dX6_told_21 : decode cX6_told 21 = .ok (.aload_n 0, 1) := by decide +kernel
theorem dX6_told_22 : decode cX6_told 22 = .ok (.getfield 9, 3) := by decide +kernel
theorem dX6_told_25 : decode cX6_told 25 = .ok (.bipush 56, 2) := by decide +kernel
theorem dX6_told_27 : decode cX6_told 27 = .ok (.iload_n 3, 1) := by decide +kernel
theorem dX6_told_28 : decode cX6_told 28 = .ok (.iadd, 1) := by decide +kernel
theorem dX6_told_29 : decode cX6_told 29 = .ok (.iaload, 1) := by decide +kernel
theorem dX6_told_30 : decode cX6_told 30 = .ok (.iload_n 1, 1) := by decide +kernel
theorem dX6_told_31 : decode cX6_told 31 = .ok (.iand, 1) := by decide +kernel
theorem dX6_told_32 : decode cX6_told 32 = .ok (.invokevirtual 174, 3) := by decide +kernel
theorem dX6_told_35 : decode cX6_told 35 = .ok (.iconst 1, 1) := by decide +kernel
theorem dX6_told_36 : decode cX6_told 36 = .ok (.iload_n 3, 1) := by decide +kernel
theorem dX6_told_37 : decode cX6_told 37 = .ok (.ishl, 1) := by decide +kernel
theorem dX6_told_38 : decode cX6_told 38 = .ok (.if_icmp .ne 9, 3) := by decide +kernel
theorem dX6_told_41 : decode cX6_told 41 = .ok (.iconst 1, 1) := by decide +kernel
theorem dX6_told_42 : decode cX6_told 42 = .ok (.iload_n 3, 1) := by decide +kernel
theorem dX6_told_43 : decode cX6_told 43 = .ok (.ishl, 1) := by decide +kernel
theorem dX6_told_44 : decode cX6_told 44 = .ok (.goto 4, 3) := by decide +kernel
theorem dX6_told_47 : decode cX6_told 47 = .ok (.iconst 0, 1) := by decide +kernel
theorem dX6_told_48 : decode cX6_told 48 = .ok (.ior, 1) := by decide +kernel
theorem dX6_told_49 : decode cX6_told 49 = .ok (.istore_n 2, 1) := by decide +kernel
theorem dX6_told_50 : decode cX6_told 50 = .ok (.iinc 3 1, 3) := by decide +kernel
theorem dX6_told_53 : decode cX6_told 53 = .ok (.goto (-44), 3) := by decide +kernel
theorem dX6_told_56 : decode cX6_told 56 = .ok (.iload_n 2, 1) := by decide +kernel
theorem dX6_told_57 : decode cX6_told 57 = .ok (.ireturn, 1) := by decide +kernel
theorem dX6_nearest_0 : decode cX6_nearest 0 = .ok (.iconst (-1), 1) := by decide +kernel
theorem dX6_nearest_1 : decode cX6_nearest 1 = .ok (.istore_n 2, 1) := by decide +kernel
theorem dX6_nearest_2 : decode cX6_nearest 2 = .ok (.iconst 0, 1) := by decide +kernel
theorem dX6_nearest_3 : decode cX6_nearest 3 = .ok (.istore_n 3, 1) := by decide +kernel
theorem dX6_nearest_4 : decode cX6_nearest 4 = .ok (.iload_n 3, 1) := by decide +kernel
theorem dX6_nearest_5 : decode cX6_nearest 5 = .ok (.aload_n 0, 1) := by decide +kernel
theorem dX6_nearest_6 : decode cX6_nearest 6 = .ok (.getfield 9, 3) := by decide +kernel
theorem dX6_nearest_9 : decode cX6_nearest 9 = .ok (.iconst 1, 1) := by decide +kernel
theorem dX6_nearest_10 : decode cX6_nearest 10 = .ok (.iaload, 1) := by decide +kernel
theorem dX6_nearest_11 : decode cX6_nearest 11 = .ok (.if_icmp .ge 62, 3) := by decide +kernel
theorem dX6_nearest_14 : decode cX6_nearest 14 = .ok (.iload_n 2, 1) := by decide +kernel
theorem dX6_nearest_15 : decode cX6_nearest 15 = .ok (.ifCond .lt 26, 3) := by decide +kernel
theorem dX6_nearest_18 : decode cX6_nearest 18 = .ok (.iload_n 1, 1) := by decide +kernel
theorem dX6_nearest_19 : decode cX6_nearest 19 = .ok (.aload_n 0, 1) := by decide +kernel
theorem dX6_nearest_20 : decode cX6_nearest 20 = .ok (.iload_n 3, 1) := by decide +kernel
theorem dX6_nearest_21 : decode cX6_nearest 21 = .ok (.iconst 1, 1) := by decide +kernel
theorem dX6_nearest_22 : decode cX6_nearest 22 = .ok (.invokevirtual 58, 3) := by decide +kernel
theorem dX6_nearest_25 : decode cX6_nearest 25 = .ok (.invokestatic 110, 3) := by decide +kernel
theorem dX6_nearest_28 : decode cX6_nearest 28 = .ok (.iload_n 1, 1) := by decide +kernel
theorem dX6_nearest_29 : decode cX6_nearest 29 = .ok (.aload_n 0, 1) := by decide +kernel
theorem dX6_nearest_30 : decode cX6_nearest 30 = .ok (.iload_n 2, 1) := by decide +kernel
theorem dX6_nearest_31 : decode cX6_nearest 31 = .ok (.iconst 1, 1) := by decide +kernel
theorem dX6_nearest_32 : decode cX6_nearest 32 = .ok (.invokevirtual 58, 3) := by decide +kernel
theorem dX6_nearest_35 : decode cX6_nearest 35 = .ok (.invokestatic 110, 3) := by decide +kernel
theorem dX6_nearest_38 : decode cX6_nearest 38 = .ok (.if_icmp .ge 7, 3) := by decide +kernel
theorem dX6_nearest_41 : decode cX6_nearest 41 = .ok (.iconst 1, 1) := by decide +kernel
theorem dX6_nearest_42 : decode cX6_nearest 42 = .ok (.goto 4, 3) := by decide +kernel
theorem dX6_nearest_45 : decode cX6_nearest 45 = .ok (.iconst 0, 1) := by decide +kernel
theorem dX6_nearest_46 : decode cX6_nearest 46 = .ok (.istore 4, 2) := by decide +kernel
theorem dX6_nearest_48 : decode cX6_nearest 48 = .ok (.aload_n 0, 1) := by decide +kernel
theorem dX6_nearest_49 : decode cX6_nearest 49 = .ok (.iload_n 3, 1) := by decide +kernel
theorem dX6_nearest_50 : decode cX6_nearest 50 = .ok (.invokevirtual 66, 3) := by decide +kernel
theorem dX6_nearest_53 : decode cX6_nearest 53 = .ok (.ifCond .eq 12, 3) := by decide +kernel
theorem dX6_nearest_56 : decode cX6_nearest 56 = .ok (.iload 4, 2) := by decide +kernel
theorem dX6_nearest_58 : decode cX6_nearest 58 = .ok (.ifCond .eq 7, 3) := by decide +kernel
theorem dX6_nearest_61 : decode cX6_nearest 61 = .ok (.iload_n 3, 1) := by decide +kernel
theorem dX6_nearest_62 : decode cX6_nearest 62 = .ok (.goto 4, 3) := by decide +kernel
theorem dX6_nearest_65 : decode cX6_nearest 65 = .ok (.iload_n 2, 1) := by decide +kernel
theorem dX6_nearest_66 : decode cX6_nearest 66 = .ok (.istore_n 2, 1) := by decide +kernel
theorem dX6_nearest_67 : decode cX6_nearest 67 = .ok (.iinc 3 1, 3) := by decide +kernel
theorem dX6_nearest_70 : decode cX6_nearest 70 = .ok (.goto (-66), 3) := by decide +kernel
theorem dX6_nearest_73 : decode cX6_nearest 73 = .ok (.iload_n 2, 1) := by decide +kernel
theorem dX6_nearest_74 : decode cX6_nearest 74 = .ok (.ireturn, 1) := by decide +kernel
theorem dX6_steers_0 : decode cX6_steers 0 = .ok (.iload_n 1, 1) := by decide +kernel
theorem dX6_steers_1 : decode cX6_steers 1 = .ok (.invokestatic 91, 3) := by decide +kernel
theorem dX6_steers_4 : decode cX6_steers 4 = .ok (.ifCond .ne 9, 3) := by decide +kernel
theorem dX6_steers_7 : decode cX6_steers 7 = .ok (.aload_n 0, 1) := by decide +kernel
theorem dX6_steers_8 : decode cX6_steers 8 = .ok (.iconst 0, 1) := by decide +kernel
theorem dX6_steers_9 : decode cX6_steers 9 = .ok (.invokevirtual 94, 3) := by decide +kernel
theorem dX6_steers_12 : decode cX6_steers 12 = .ok (.ireturn, 1) := by decide +kernel
theorem dX6_steers_13 : decode cX6_steers 13 = .ok (.aload_n 0, 1) := by decide +kernel
theorem dX6_steers_14 : decode cX6_steers 14 = .ok (.iload_n 1, 1) := by decide +kernel
theorem dX6_steers_15 : decode cX6_steers 15 = .ok (.invokevirtual 177, 3) := by decide +kernel
theorem dX6_steers_18 : decode cX6_steers 18 = .ok (.istore_n 2, 1) := by decide +kernel
theorem dX6_steers_19 : decode cX6_steers 19 = .ok (.iload_n 2, 1) := by decide +kernel
theorem dX6_steers_20 : decode cX6_steers 20 = .ok (.ifCond .ge 11, 3) := by decide +kernel
theorem dX6_steers_23 : decode cX6_steers 23 = .ok (.aload_n 0, 1) := by decide +kernel
theorem dX6_steers_24 : decode cX6_steers 24 = .ok (.iconst 3, 1) := by decide +kernel
theorem dX6_steers_25 : decode cX6_steers 25 = .ok (.invokevirtual 94, 3) := by decide +kernel
theorem dX6_steers_28 : decode cX6_steers 28 = .ok (.goto 4, 3) := by decide +kernel
theorem dX6_steers_31 : decode cX6_steers 31 = .ok (.iload_n 2, 1) := by decide +kernel
theorem dX6_steers_32 : decode cX6_steers 32 = .ok (.ireturn, 1) := by decide +kernel
theorem dX6_sees_0 : decode cX6_sees 0 = .ok (.aload_n 0, 1) := by decide +kernel
theorem dX6_sees_1 : decode cX6_sees 1 = .ok (.iload_n 1, 1) := by decide +kernel
theorem dX6_sees_2 : decode cX6_sees 2 = .ok (.invokevirtual 101, 3) := by decide +kernel
theorem dX6_sees_5 : decode cX6_sees 5 = .ok (.ifCond .ne 9, 3) := by decide +kernel
theorem dX6_sees_8 : decode cX6_sees 8 = .ok (.aload_n 0, 1) := by decide +kernel
theorem dX6_sees_9 : decode cX6_sees 9 = .ok (.iconst 0, 1) := by decide +kernel
theorem dX6_sees_10 : decode cX6_sees 10 = .ok (.invokevirtual 94, 3) := by decide +kernel
theorem dX6_sees_13 : decode cX6_sees 13 = .ok (.ireturn, 1) := by decide +kernel
theorem dX6_sees_14 : decode cX6_sees 14 = .ok (.iconst 0, 1) := by decide +kernel
theorem dX6_sees_15 : decode cX6_sees 15 = .ok (.istore_n 2, 1) := by decide +kernel
theorem dX6_sees_16 : decode cX6_sees 16 = .ok (.iconst 0, 1) := by decide +kernel
theorem dX6_sees_17 : decode cX6_sees 17 = .ok (.istore_n 3, 1) := by decide +kernel
theorem dX6_sees_18 : decode cX6_sees 18 = .ok (.iload_n 3, 1) := by decide +kernel
theorem dX6_sees_19 : decode cX6_sees 19 = .ok (.bipush 100, 2) := by decide +kernel
theorem dX6_sees_21 : decode cX6_sees 21 = .ok (.if_icmp .ge 26, 3) := by decide +kernel
theorem dX6_sees_24 : decode cX6_sees 24 = .ok (.iload_n 2, 1) := by decide +kernel
theorem dX6_sees_25 : decode cX6_sees 25 = .ok (.aload_n 0, 1) := by decide +kernel
theorem dX6_sees_26 : decode cX6_sees 26 = .ok (.iload_n 3, 1) := by decide +kernel
theorem dX6_sees_27 : decode cX6_sees 27 = .ok (.invokevirtual 177, 3) := by decide +kernel
theorem dX6_sees_30 : decode cX6_sees 30 = .ok (.iload_n 1, 1) := by decide +kernel
theorem dX6_sees_31 : decode cX6_sees 31 = .ok (.if_icmp .ne 7, 3) := by decide +kernel
theorem dX6_sees_34 : decode cX6_sees 34 = .ok (.iconst 1, 1) := by decide +kernel
theorem dX6_sees_35 : decode cX6_sees 35 = .ok (.goto 4, 3) := by decide +kernel
theorem dX6_sees_38 : decode cX6_sees 38 = .ok (.iconst 0, 1) := by decide +kernel
theorem dX6_sees_39 : decode cX6_sees 39 = .ok (.iadd, 1) := by decide +kernel
theorem dX6_sees_40 : decode cX6_sees 40 = .ok (.istore_n 2, 1) := by decide +kernel
theorem dX6_sees_41 : decode cX6_sees 41 = .ok (.iinc 3 1, 3) := by decide +kernel
theorem dX6_sees_44 : decode cX6_sees 44 = .ok (.goto (-26), 3) := by decide +kernel
theorem dX6_sees_47 : decode cX6_sees 47 = .ok (.iload_n 2, 1) := by decide +kernel
theorem dX6_sees_48 : decode cX6_sees 48 = .ok (.ireturn, 1) := by decide +kernel
theorem dX6_isSheet_0 : decode cX6_isSheet 0 = .ok (.iload_n 0, 1) := by decide +kernel
theorem dX6_isSheet_1 : decode cX6_isSheet 1 = .ok (.iconst 0, 1) := by decide +kernel
theorem dX6_isSheet_2 : decode cX6_isSheet 2 = .ok (.iconst 3, 1) := by decide +kernel
theorem dX6_isSheet_3 : decode cX6_isSheet 3 = .ok (.invokestatic 54, 3) := by decide +kernel
theorem dX6_isSheet_6 : decode cX6_isSheet 6 = .ok (.ireturn, 1) := by decide +kernel
theorem dX6_wrongSheet_0 : decode cX6_wrongSheet 0 = .ok (.iload_n 1, 1) := by decide +kernel
theorem dX6_wrongSheet_1 : decode cX6_wrongSheet 1 = .ok (.invokestatic 180, 3) := by decide +kernel
theorem dX6_wrongSheet_4 : decode cX6_wrongSheet 4 = .ok (.ifCond .ne 7, 3) := by decide +kernel
theorem dX6_wrongSheet_7 : decode cX6_wrongSheet 7 = .ok (.iconst 0, 1) := by decide +kernel
theorem dX6_wrongSheet_8 : decode cX6_wrongSheet 8 = .ok (.goto 17, 3) := by decide +kernel
theorem dX6_wrongSheet_11 : decode cX6_wrongSheet 11 = .ok (.aload_n 0, 1) := by decide +kernel
theorem dX6_wrongSheet_12 : decode cX6_wrongSheet 12 = .ok (.getfield 41, 3) := by decide +kernel
theorem dX6_wrongSheet_15 : decode cX6_wrongSheet 15 = .ok (.iload_n 1, 1) := by decide +kernel
theorem dX6_wrongSheet_16 : decode cX6_wrongSheet 16 = .ok (.iaload, 1) := by decide +kernel
theorem dX6_wrongSheet_17 : decode cX6_wrongSheet 17 = .ok (.ifCond .ne 7, 3) := by decide +kernel
theorem dX6_wrongSheet_20 : decode cX6_wrongSheet 20 = .ok (.iconst 5, 1) := by decide +kernel
theorem dX6_wrongSheet_21 : decode cX6_wrongSheet 21 = .ok (.goto 4, 3) := by decide +kernel
theorem dX6_wrongSheet_24 : decode cX6_wrongSheet 24 = .ok (.iconst (-1), 1) := by decide +kernel
theorem dX6_wrongSheet_25 : decode cX6_wrongSheet 25 = .ok (.ireturn, 1) := by decide +kernel
theorem dX6_toldAt_0 : decode cX6_toldAt 0 = .ok (.aload_n 0, 1) := by decide +kernel
theorem dX6_toldAt_1 : decode cX6_toldAt 1 = .ok (.getfield 47, 3) := by decide +kernel
theorem dX6_toldAt_4 : decode cX6_toldAt 4 = .ok (.bipush 40, 2) := by decide +kernel
theorem dX6_toldAt_6 : decode cX6_toldAt 6 = .ok (.iload_n 1, 1) := by decide +kernel
theorem dX6_toldAt_7 : decode cX6_toldAt 7 = .ok (.imul, 1) := by decide +kernel
theorem dX6_toldAt_8 : decode cX6_toldAt 8 = .ok (.iload_n 2, 1) := by decide +kernel
theorem dX6_toldAt_9 : decode cX6_toldAt 9 = .ok (.iadd, 1) := by decide +kernel
theorem dX6_toldAt_10 : decode cX6_toldAt 10 = .ok (.iaload, 1) := by decide +kernel
theorem dX6_toldAt_11 : decode cX6_toldAt 11 = .ok (.ireturn, 1) := by decide +kernel
theorem dX6_dimsSo_0 : decode cX6_dimsSo 0 = .ok (.aload_n 0, 1) := by decide +kernel
theorem dX6_dimsSo_1 : decode cX6_dimsSo 1 = .ok (.invokevirtual 133, 3) := by decide +kernel
theorem dX6_dimsSo_4 : decode cX6_dimsSo 4 = .ok (.iconst 1, 1) := by decide +kernel
theorem dX6_dimsSo_5 : decode cX6_dimsSo 5 = .ok (.istore_n 3, 1) := by decide +kernel
theorem dX6_dimsSo_6 : decode cX6_dimsSo 6 = .ok (.iconst 0, 1) := by decide +kernel
theorem dX6_dimsSo_7 : decode cX6_dimsSo 7 = .ok (.istore 4, 2) := by decide +kernel
theorem dX6_dimsSo_9 : decode cX6_dimsSo 9 = .ok (.iload 4, 2) := by decide +kernel
theorem dX6_dimsSo_11 : decode cX6_dimsSo 11 = .ok (.aload_n 0, 1) := by decide +kernel
theorem dX6_dimsSo_12 : decode cX6_dimsSo 12 = .ok (.getfield 44, 3) := by decide +kernel
theorem dX6_dimsSo_15 : decode cX6_dimsSo 15 = .ok (.iload_n 1, 1) := by decide +kernel
theorem dX6_dimsSo_16 : decode cX6_dimsSo 16 = .ok (.iaload, 1) := by decide +kernel
theorem dX6_dimsSo_17 : decode cX6_dimsSo 17 = .ok (.if_icmp .ge 50, 3) := by decide +kernel
theorem dX6_dimsSo_20 : decode cX6_dimsSo 20 = .ok (.iload_n 3, 1) := by decide +kernel
theorem dX6_dimsSo_21 : decode cX6_dimsSo 21 = .ok (.ifCond .eq 46, 3) := by decide +kernel
theorem dX6_dimsSo_24 : decode cX6_dimsSo 24 = .ok (.aload_n 0, 1) := by decide +kernel
theorem dX6_dimsSo_25 : decode cX6_dimsSo 25 = .ok (.iload_n 1, 1) := by decide +kernel
theorem dX6_dimsSo_26 : decode cX6_dimsSo 26 = .ok (.iload 4, 2) := by decide +kernel
theorem dX6_dimsSo_28 : decode cX6_dimsSo 28 = .ok (.invokevirtual 183, 3) := by decide +kernel
theorem dX6_dimsSo_31 : decode cX6_dimsSo 31 = .ok (.iconst (-1), 1) := by decide +kernel
theorem dX6_dimsSo_32 : decode cX6_dimsSo 32 = .ok (.if_icmp .eq 19, 3) := by decide +kernel
theorem dX6_dimsSo_35 : decode cX6_dimsSo 35 = .ok (.aload_n 0, 1) := by decide +kernel
theorem dX6_dimsSo_36 : decode cX6_dimsSo 36 = .ok (.iload_n 1, 1) := by decide +kernel
theorem dX6_dimsSo_37 : decode cX6_dimsSo 37 = .ok (.iload 4, 2) := by decide +kernel
theorem dX6_dimsSo_39 : decode cX6_dimsSo 39 = .ok (.invokevirtual 183, 3) := by decide +kernel
theorem dX6_dimsSo_42 : decode cX6_dimsSo 42 = .ok (.aload_n 0, 1) := by decide +kernel
theorem dX6_dimsSo_43 : decode cX6_dimsSo 43 = .ok (.iload_n 2, 1) := by decide +kernel
theorem dX6_dimsSo_44 : decode cX6_dimsSo 44 = .ok (.iconst 2, 1) := by decide +kernel
theorem dX6_dimsSo_45 : decode cX6_dimsSo 45 = .ok (.invokevirtual 58, 3) := by decide +kernel
theorem dX6_dimsSo_48 : decode cX6_dimsSo 48 = .ok (.if_icmp .ne 7, 3) := by decide +kernel
theorem dX6_dimsSo_51 : decode cX6_dimsSo 51 = .ok (.iconst 1, 1) := by decide +kernel
theorem dX6_dimsSo_52 : decode cX6_dimsSo 52 = .ok (.goto 4, 3) := by decide +kernel
theorem dX6_dimsSo_55 : decode cX6_dimsSo 55 = .ok (.iconst 0, 1) := by decide +kernel
theorem dX6_dimsSo_56 : decode cX6_dimsSo 56 = .ok (.istore_n 3, 1) := by decide +kernel
theorem dX6_dimsSo_57 : decode cX6_dimsSo 57 = .ok (.aload_n 0, 1) := by decide +kernel
theorem dX6_dimsSo_58 : decode cX6_dimsSo 58 = .ok (.invokevirtual 88, 3) := by decide +kernel
theorem dX6_dimsSo_61 : decode cX6_dimsSo 61 = .ok (.iinc 4 1, 3) := by decide +kernel
theorem dX6_dimsSo_64 : decode cX6_dimsSo 64 = .ok (.goto (-55), 3) := by decide +kernel
theorem dX6_dimsSo_67 : decode cX6_dimsSo 67 = .ok (.aload_n 0, 1) := by decide +kernel
theorem dX6_dimsSo_68 : decode cX6_dimsSo 68 = .ok (.invokevirtual 136, 3) := by decide +kernel
theorem dX6_dimsSo_71 : decode cX6_dimsSo 71 = .ok (.iload_n 3, 1) := by decide +kernel
theorem dX6_dimsSo_72 : decode cX6_dimsSo 72 = .ok (.ireturn, 1) := by decide +kernel
theorem dX6_which_0 : decode cX6_which 0 = .ok (.aload_n 0, 1) := by decide +kernel
theorem dX6_which_1 : decode cX6_which 1 = .ok (.iload_n 1, 1) := by decide +kernel
theorem dX6_which_2 : decode cX6_which 2 = .ok (.invokevirtual 186, 3) := by decide +kernel
theorem dX6_which_5 : decode cX6_which 5 = .ok (.istore_n 2, 1) := by decide +kernel
theorem dX6_which_6 : decode cX6_which 6 = .ok (.iload_n 2, 1) := by decide +kernel
theorem dX6_which_7 : decode cX6_which 7 = .ok (.ifCond .lt 9, 3) := by decide +kernel
theorem dX6_which_10 : decode cX6_which 10 = .ok (.aload_n 0, 1) := by decide +kernel
theorem dX6_which_11 : decode cX6_which 11 = .ok (.iload_n 2, 1) := by decide +kernel
theorem dX6_which_12 : decode cX6_which 12 = .ok (.invokevirtual 94, 3) := by decide +kernel
theorem dX6_which_15 : decode cX6_which 15 = .ok (.ireturn, 1) := by decide +kernel
theorem dX6_which_16 : decode cX6_which 16 = .ok (.iconst 0, 1) := by decide +kernel
theorem dX6_which_17 : decode cX6_which 17 = .ok (.istore_n 3, 1) := by decide +kernel
theorem dX6_which_18 : decode cX6_which 18 = .ok (.iconst 0, 1) := by decide +kernel
theorem dX6_which_19 : decode cX6_which 19 = .ok (.istore 4, 2) := by decide +kernel
theorem dX6_which_21 : decode cX6_which 21 = .ok (.iload 4, 2) := by decide +kernel
theorem dX6_which_23 : decode cX6_which 23 = .ok (.aload_n 0, 1) := by decide +kernel
theorem dX6_which_24 : decode cX6_which 24 = .ok (.getfield 9, 3) := by decide +kernel
theorem dX6_which_27 : decode cX6_which 27 = .ok (.iconst 1, 1) := by decide +kernel
theorem dX6_which_28 : decode cX6_which 28 = .ok (.iaload, 1) := by decide +kernel
theorem dX6_which_29 : decode cX6_which 29 = .ok (.if_icmp .ge 30, 3) := by decide +kernel
theorem dX6_which_32 : decode cX6_which 32 = .ok (.iload_n 3, 1) := by decide +kernel
theorem dX6_which_33 : decode cX6_which 33 = .ok (.aload_n 0, 1) := by decide +kernel
theorem dX6_which_34 : decode cX6_which 34 = .ok (.iload_n 1, 1) := by decide +kernel
theorem dX6_which_35 : decode cX6_which 35 = .ok (.iload 4, 2) := by decide +kernel
theorem dX6_which_37 : decode cX6_which 37 = .ok (.invokevirtual 189, 3) := by decide +kernel
theorem dX6_which_40 : decode cX6_which 40 = .ok (.ifCond .eq 10, 3) := by decide +kernel
theorem dX6_which_43 : decode cX6_which 43 = .ok (.iconst 1, 1) := by decide +kernel
theorem dX6_which_44 : decode cX6_which 44 = .ok (.iload 4, 2) := by decide +kernel
theorem dX6_which_46 : decode cX6_which 46 = .ok (.ishl, 1) := by decide +kernel
theorem dX6_which_47 : decode cX6_which 47 = .ok (.goto 4, 3) := by decide +kernel
theorem dX6_which_50 : decode cX6_which 50 = .ok (.iconst 0, 1) := by decide +kernel
theorem dX6_which_51 : decode cX6_which 51 = .ok (.ior, 1) := by decide +kernel
theorem dX6_which_52 : decode cX6_which 52 = .ok (.istore_n 3, 1) := by decide +kernel
theorem dX6_which_53 : decode cX6_which 53 = .ok (.iinc 4 1, 3) := by decide +kernel
theorem dX6_which_56 : decode cX6_which 56 = .ok (.goto (-35), 3) := by decide +kernel
theorem dX6_which_59 : decode cX6_which 59 = .ok (.iload_n 3, 1) := by decide +kernel
theorem dX6_which_60 : decode cX6_which 60 = .ok (.ireturn, 1) := by decide +kernel
theorem dX6_kinds_0 : decode cX6_kinds 0 = .ok (.aload_n 0, 1) := by decide +kernel
theorem dX6_kinds_1 : decode cX6_kinds 1 = .ok (.iload_n 1, 1) := by decide +kernel
theorem dX6_kinds_2 : decode cX6_kinds 2 = .ok (.invokevirtual 186, 3) := by decide +kernel
theorem dX6_kinds_5 : decode cX6_kinds 5 = .ok (.istore_n 3, 1) := by decide +kernel
theorem dX6_kinds_6 : decode cX6_kinds 6 = .ok (.iload_n 3, 1) := by decide +kernel
theorem dX6_kinds_7 : decode cX6_kinds 7 = .ok (.ifCond .ge 13, 3) := by decide +kernel
theorem dX6_kinds_10 : decode cX6_kinds 10 = .ok (.aload_n 0, 1) := by decide +kernel
theorem dX6_kinds_11 : decode cX6_kinds 11 = .ok (.iload_n 2, 1) := by decide +kernel
theorem dX6_kinds_12 : decode cX6_kinds 12 = .ok (.invokevirtual 101, 3) := by decide +kernel
theorem dX6_kinds_15 : decode cX6_kinds 15 = .ok (.ifCond .ne 5, 3) := by decide +kernel
theorem dX6_kinds_18 : decode cX6_kinds 18 = .ok (.iconst 0, 1) := by decide +kernel
theorem dX6_kinds_19 : decode cX6_kinds 19 = .ok (.istore_n 3, 1) := by decide +kernel
theorem dX6_kinds_20 : decode cX6_kinds 20 = .ok (.iload_n 3, 1) := by decide +kernel
theorem dX6_kinds_21 : decode cX6_kinds 21 = .ok (.ifCond .lt 9, 3) := by decide +kernel
theorem dX6_kinds_24 : decode cX6_kinds 24 = .ok (.aload_n 0, 1) := by decide +kernel
theorem dX6_kinds_25 : decode cX6_kinds 25 = .ok (.iload_n 3, 1) := by decide +kernel
theorem dX6_kinds_26 : decode cX6_kinds 26 = .ok (.invokevirtual 94, 3) := by decide +kernel
theorem dX6_kinds_29 : decode cX6_kinds 29 = .ok (.ireturn, 1) := by decide +kernel
theorem dX6_kinds_30 : decode cX6_kinds 30 = .ok (.aload_n 0, 1) := by decide +kernel
theorem dX6_kinds_31 : decode cX6_kinds 31 = .ok (.iload_n 2, 1) := by decide +kernel
theorem dX6_kinds_32 : decode cX6_kinds 32 = .ok (.iconst 0, 1) := by decide +kernel
theorem dX6_kinds_33 : decode cX6_kinds 33 = .ok (.invokevirtual 58, 3) := by decide +kernel
theorem dX6_kinds_36 : decode cX6_kinds 36 = .ok (.istore 4, 2) := by decide +kernel
theorem dX6_kinds_38 : decode cX6_kinds 38 = .ok (.iconst 0, 1) := by decide +kernel
theorem dX6_kinds_39 : decode cX6_kinds 39 = .ok (.istore 5, 2) := by decide +kernel
theorem dX6_kinds_41 : decode cX6_kinds 41 = .ok (.iconst 0, 1) := by decide +kernel
theorem dX6_kinds_42 : decode cX6_kinds 42 = .ok (.istore 6, 2) := by decide +kernel
theorem dX6_kinds_44 : decode cX6_kinds 44 = .ok (.iload 6, 2) := by decide +kernel
theorem dX6_kinds_46 : decode cX6_kinds 46 = .ok (.bipush 6, 2) := by decide +kernel
theorem dX6_kinds_48 : decode cX6_kinds 48 = .ok (.if_icmp .gt 36, 3) := by decide +kernel
theorem dX6_kinds_51 : decode cX6_kinds 51 = .ok (.aload_n 0, 1) := by decide +kernel
theorem dX6_kinds_52 : decode cX6_kinds 52 = .ok (.iload_n 2, 1) := by decide +kernel
theorem dX6_kinds_53 : decode cX6_kinds 53 = .ok (.iconst 0, 1) := by decide +kernel
theorem dX6_kinds_54 : decode cX6_kinds 54 = .ok (.iload 6, 2) := by decide +kernel
theorem dX6_kinds_56 : decode cX6_kinds 56 = .ok (.invokevirtual 80, 3) := by decide +kernel
theorem dX6_kinds_59 : decode cX6_kinds 59 = .ok (.iload 5, 2) := by decide +kernel
theorem dX6_kinds_61 : decode cX6_kinds 61 = .ok (.aload_n 0, 1) := by decide +kernel
theorem dX6_kinds_62 : decode cX6_kinds 62 = .ok (.iload_n 1, 1) := by decide +kernel
theorem dX6_kinds_63 : decode cX6_kinds 63 = .ok (.iload_n 2, 1) := by decide +kernel
theorem dX6_kinds_64 : decode cX6_kinds 64 = .ok (.invokevirtual 189, 3) := by decide +kernel
theorem dX6_kinds_67 : decode cX6_kinds 67 = .ok (.ifCond .eq 7, 3) := by decide +kernel
theorem dX6_kinds_70 : decode cX6_kinds 70 = .ok (.iconst 1, 1) := by decide +kernel
theorem dX6_kinds_71 : decode cX6_kinds 71 = .ok (.goto 4, 3) := by decide +kernel
theorem dX6_kinds_74 : decode cX6_kinds 74 = .ok (.iconst 0, 1) := by decide +kernel
theorem dX6_kinds_75 : decode cX6_kinds 75 = .ok (.iadd, 1) := by decide +kernel
theorem dX6_kinds_76 : decode cX6_kinds 76 = .ok (.istore 5, 2) := by decide +kernel
theorem dX6_kinds_78 : decode cX6_kinds 78 = .ok (.iinc 6 1, 3) := by decide +kernel
theorem dX6_kinds_81 : decode cX6_kinds 81 = .ok (.goto (-37), 3) := by decide +kernel
theorem dX6_kinds_84 : decode cX6_kinds 84 = .ok (.aload_n 0, 1) := by decide +kernel
theorem dX6_kinds_85 : decode cX6_kinds 85 = .ok (.iload_n 2, 1) := by decide +kernel
theorem dX6_kinds_86 : decode cX6_kinds 86 = .ok (.iconst 0, 1) := by decide +kernel
theorem dX6_kinds_87 : decode cX6_kinds 87 = .ok (.iload 4, 2) := by decide +kernel
theorem dX6_kinds_89 : decode cX6_kinds 89 = .ok (.invokevirtual 80, 3) := by decide +kernel
theorem dX6_kinds_92 : decode cX6_kinds 92 = .ok (.iload 5, 2) := by decide +kernel
theorem dX6_kinds_94 : decode cX6_kinds 94 = .ok (.ireturn, 1) := by decide +kernel
theorem dX6_draw_0 : decode cX6_draw 0 = .ok (.aload_n 0, 1) := by decide +kernel
theorem dX6_draw_1 : decode cX6_draw 1 = .ok (.getfield 9, 3) := by decide +kernel
theorem dX6_draw_4 : decode cX6_draw 4 = .ok (.iconst 3, 1) := by decide +kernel
theorem dX6_draw_5 : decode cX6_draw 5 = .ok (.aload_n 0, 1) := by decide +kernel
theorem dX6_draw_6 : decode cX6_draw 6 = .ok (.getfield 9, 3) := by decide +kernel
theorem dX6_draw_9 : decode cX6_draw 9 = .ok (.iconst 3, 1) := by decide +kernel
theorem dX6_draw_10 : decode cX6_draw 10 = .ok (.iaload, 1) := by decide +kernel
theorem dX6_draw_11 : decode cX6_draw 11 = .ok (.ldc 192, 2) := by decide +kernel
theorem dX6_draw_13 : decode cX6_draw 13 = .ok (.imul, 1) := by decide +kernel
theorem dX6_draw_14 : decode cX6_draw 14 = .ok (.sipush 12345, 3) := by decide +kernel
theorem dX6_draw_17 : decode cX6_draw 17 = .ok (.iadd, 1) := by decide +kernel
theorem dX6_draw_18 : decode cX6_draw 18 = .ok (.iastore, 1) := by decide +kernel
theorem dX6_draw_19 : decode cX6_draw 19 = .ok (.aload_n 0, 1) := by decide +kernel
theorem dX6_draw_20 : decode cX6_draw 20 = .ok (.getfield 9, 3) := by decide +kernel
theorem dX6_draw_23 : decode cX6_draw 23 = .ok (.iconst 3, 1) := by decide +kernel
theorem dX6_draw_24 : decode cX6_draw 24 = .ok (.iaload, 1) := by decide +kernel
theorem dX6_draw_25 : decode cX6_draw 25 = .ok (.bipush 8, 2) := by decide +kernel
theorem dX6_draw_27 : decode cX6_draw 27 = .ok (.iushr, 1) := by decide +kernel
theorem dX6_draw_28 : decode cX6_draw 28 = .ok (.ireturn, 1) := by decide +kernel
theorem dX6_drops_0 : decode cX6_drops 0 = .ok (.iload_n 1, 1) := by decide +kernel
theorem dX6_drops_1 : decode cX6_drops 1 = .ok (.iconst 1, 1) := by decide +kernel
theorem dX6_drops_2 : decode cX6_drops 2 = .ok (.bipush 20, 2) := by decide +kernel
theorem dX6_drops_4 : decode cX6_drops 4 = .ok (.invokestatic 54, 3) := by decide +kernel
theorem dX6_drops_7 : decode cX6_drops 7 = .ok (.ifCond .ne 9, 3) := by decide +kernel
theorem dX6_drops_10 : decode cX6_drops 10 = .ok (.aload_n 0, 1) := by decide +kernel
theorem dX6_drops_11 : decode cX6_drops 11 = .ok (.iconst 0, 1) := by decide +kernel
theorem dX6_drops_12 : decode cX6_drops 12 = .ok (.invokevirtual 94, 3) := by decide +kernel
theorem dX6_drops_15 : decode cX6_drops 15 = .ok (.ireturn, 1) := by decide +kernel
theorem dX6_drops_16 : decode cX6_drops 16 = .ok (.aload_n 0, 1) := by decide +kernel
theorem dX6_drops_17 : decode cX6_drops 17 = .ok (.getfield 9, 3) := by decide +kernel
theorem dX6_drops_20 : decode cX6_drops 20 = .ok (.iconst 0, 1) := by decide +kernel
theorem dX6_drops_21 : decode cX6_drops 21 = .ok (.iaload, 1) := by decide +kernel
theorem dX6_drops_22 : decode cX6_drops 22 = .ok (.iload_n 1, 1) := by decide +kernel
theorem dX6_drops_23 : decode cX6_drops 23 = .ok (.iadd, 1) := by decide +kernel
theorem dX6_drops_24 : decode cX6_drops 24 = .ok (.ldc 84, 2) := by decide +kernel
theorem dX6_drops_26 : decode cX6_drops 26 = .ok (.if_icmp .le 9, 3) := by decide +kernel
theorem dX6_drops_29 : decode cX6_drops 29 = .ok (.aload_n 0, 1) := by decide +kernel
theorem dX6_drops_30 : decode cX6_drops 30 = .ok (.iconst 4, 1) := by decide +kernel
theorem dX6_drops_31 : decode cX6_drops 31 = .ok (.invokevirtual 94, 3) := by decide +kernel
theorem dX6_drops_34 : decode cX6_drops 34 = .ok (.ireturn, 1) := by decide +kernel
theorem dX6_drops_35 : decode cX6_drops 35 = .ok (.iconst 0, 1) := by decide +kernel
theorem dX6_drops_36 : decode cX6_drops 36 = .ok (.istore_n 2, 1) := by decide +kernel
theorem dX6_drops_37 : decode cX6_drops 37 = .ok (.iconst 0, 1) := by decide +kernel
theorem dX6_drops_38 : decode cX6_drops 38 = .ok (.istore_n 3, 1) := by decide +kernel
theorem dX6_drops_39 : decode cX6_drops 39 = .ok (.iload_n 3, 1) := by decide +kernel
theorem dX6_drops_40 : decode cX6_drops 40 = .ok (.iload_n 1, 1) := by decide +kernel
theorem dX6_drops_41 : decode cX6_drops 41 = .ok (.if_icmp .ge 42, 3) := by decide +kernel
theorem dX6_drops_44 : decode cX6_drops 44 = .ok (.aload_n 0, 1) := by decide +kernel
theorem dX6_drops_45 : decode cX6_drops 45 = .ok (.invokevirtual 193, 3) := by decide +kernel
theorem dX6_drops_48 : decode cX6_drops 48 = .ok (.bipush 16, 2) := by decide +kernel
theorem dX6_drops_50 : decode cX6_drops 50 = .ok (.irem, 1) := by decide +kernel
theorem dX6_drops_51 : decode cX6_drops 51 = .ok (.istore 4, 2) := by decide +kernel
theorem dX6_drops_53 : decode cX6_drops 53 = .ok (.aload_n 0, 1) := by decide +kernel
theorem dX6_drops_54 : decode cX6_drops 54 = .ok (.iload 4, 2) := by decide +kernel
theorem dX6_drops_56 : decode cX6_drops 56 = .ok (.invokevirtual 101, 3) := by decide +kernel
theorem dX6_drops_59 : decode cX6_drops 59 = .ok (.ifCond .eq 14, 3) := by decide +kernel
theorem dX6_drops_62 : decode cX6_drops 62 = .ok (.aload_n 0, 1) := by decide +kernel
theorem dX6_drops_63 : decode cX6_drops 63 = .ok (.iload 4, 2) := by decide +kernel
theorem dX6_drops_65 : decode cX6_drops 65 = .ok (.iconst 2, 1) := by decide +kernel
theorem dX6_drops_66 : decode cX6_drops 66 = .ok (.iconst 0, 1) := by decide +kernel
theorem dX6_drops_67 : decode cX6_drops 67 = .ok (.invokevirtual 80, 3) := by decide +kernel
theorem dX6_drops_70 : decode cX6_drops 70 = .ok (.iinc 2 1, 3) := by decide +kernel
theorem dX6_drops_73 : decode cX6_drops 73 = .ok (.aload_n 0, 1) := by decide +kernel
theorem dX6_drops_74 : decode cX6_drops 74 = .ok (.invokevirtual 88, 3) := by decide +kernel
theorem dX6_drops_77 : decode cX6_drops 77 = .ok (.iinc 3 1, 3) := by decide +kernel
theorem dX6_drops_80 : decode cX6_drops 80 = .ok (.goto (-41), 3) := by decide +kernel
theorem dX6_drops_83 : decode cX6_drops 83 = .ok (.iload_n 2, 1) := by decide +kernel
theorem dX6_drops_84 : decode cX6_drops 84 = .ok (.ireturn, 1) := by decide +kernel
theorem dX6_odds_0 : decode cX6_odds 0 = .ok (.iload_n 1, 1) := by decide +kernel
theorem dX6_odds_1 : decode cX6_odds 1 = .ok (.iconst 0, 1) := by decide +kernel
theorem dX6_odds_2 : decode cX6_odds 2 = .ok (.bipush 14, 2) := by decide +kernel
theorem dX6_odds_4 : decode cX6_odds 4 = .ok (.invokestatic 54, 3) := by decide +kernel
theorem dX6_odds_7 : decode cX6_odds 7 = .ok (.ifCond .eq 12, 3) := by decide +kernel
theorem dX6_odds_10 : decode cX6_odds 10 = .ok (.iload_n 2, 1) := by decide +kernel
theorem dX6_odds_11 : decode cX6_odds 11 = .ok (.iconst 0, 1) := by decide +kernel
theorem dX6_odds_12 : decode cX6_odds 12 = .ok (.iconst 1, 1) := by decide +kernel
theorem dX6_odds_13 : decode cX6_odds 13 = .ok (.invokestatic 54, 3) := by decide +kernel
theorem dX6_odds_16 : decode cX6_odds 16 = .ok (.ifCond .ne 10, 3) := by decide +kernel
theorem dX6_odds_19 : decode cX6_odds 19 = .ok (.aload_n 0, 1) := by decide +kernel
theorem dX6_odds_20 : decode cX6_odds 20 = .ok (.iconst 0, 1) := by decide +kernel
theorem dX6_odds_21 : decode cX6_odds 21 = .ok (.invokevirtual 94, 3) := by decide +kernel
theorem dX6_odds_24 : decode cX6_odds 24 = .ok (.i2l, 1) := by decide +kernel
theorem dX6_odds_25 : decode cX6_odds 25 = .ok (.lreturn, 1) := by decide +kernel
theorem dX6_odds_26 : decode cX6_odds 26 = .ok (.lconst 1, 1) := by decide +kernel
theorem dX6_odds_27 : decode cX6_odds 27 = .ok (.lstore_n 3, 1) := by decide +kernel
theorem dX6_odds_28 : decode cX6_odds 28 = .ok (.lconst 1, 1) := by decide +kernel
theorem dX6_odds_29 : decode cX6_odds 29 = .ok (.lstore 5, 2) := by decide +kernel
theorem dX6_odds_31 : decode cX6_odds 31 = .ok (.iconst 0, 1) := by decide +kernel
theorem dX6_odds_32 : decode cX6_odds 32 = .ok (.istore 7, 2) := by decide +kernel
theorem dX6_odds_34 : decode cX6_odds 34 = .ok (.iload 7, 2) := by decide +kernel
theorem dX6_odds_36 : decode cX6_odds 36 = .ok (.iload_n 1, 1) := by decide +kernel
theorem dX6_odds_37 : decode cX6_odds 37 = .ok (.if_icmp .ge 31, 3) := by decide +kernel
theorem dX6_odds_40 : decode cX6_odds 40 = .ok (.lload_n 3, 1) := by decide +kernel
theorem dX6_odds_41 : decode cX6_odds 41 = .ok (.ldc2_w 196, 3) := by decide +kernel
theorem dX6_odds_44 : decode cX6_odds 44 = .ok (.aload_n 0, 1) := by decide +kernel
theorem dX6_odds_45 : decode cX6_odds 45 = .ok (.getfield 9, 3) := by decide +kernel
theorem dX6_odds_48 : decode cX6_odds 48 = .ok (.iconst 1, 1) := by decide +kernel
theorem dX6_odds_49 : decode cX6_odds 49 = .ok (.iaload, 1) := by decide +kernel
theorem dX6_odds_50 : decode cX6_odds 50 = .ok (.i2l, 1) := by decide +kernel
theorem dX6_odds_51 : decode cX6_odds 51 = .ok (.lsub, 1) := by decide +kernel
theorem dX6_odds_52 : decode cX6_odds 52 = .ok (.lmul, 1) := by decide +kernel
theorem dX6_odds_53 : decode cX6_odds 53 = .ok (.lstore_n 3, 1) := by decide +kernel
theorem dX6_odds_54 : decode cX6_odds 54 = .ok (.lload 5, 2) := by decide +kernel
theorem dX6_odds_56 : decode cX6_odds 56 = .ok (.ldc2_w 196, 3) := by decide +kernel
theorem dX6_odds_59 : decode cX6_odds 59 = .ok (.lmul, 1) := by decide +kernel
theorem dX6_odds_60 : decode cX6_odds 60 = .ok (.lstore 5, 2) := by decide +kernel
theorem dX6_odds_62 : decode cX6_odds 62 = .ok (.iinc 7 1, 3) := by decide +kernel
theorem dX6_odds_65 : decode cX6_odds 65 = .ok (.goto (-31), 3) := by decide +kernel
theorem dX6_odds_68 : decode cX6_odds 68 = .ok (.lload_n 3, 1) := by decide +kernel
theorem dX6_odds_69 : decode cX6_odds 69 = .ok (.lstore 7, 2) := by decide +kernel
theorem dX6_odds_71 : decode cX6_odds 71 = .ok (.lload 5, 2) := by decide +kernel
theorem dX6_odds_73 : decode cX6_odds 73 = .ok (.lstore 9, 2) := by decide +kernel
theorem dX6_odds_75 : decode cX6_odds 75 = .ok (.lload 9, 2) := by decide +kernel
theorem dX6_odds_77 : decode cX6_odds 77 = .ok (.lconst 0, 1) := by decide +kernel
theorem dX6_odds_78 : decode cX6_odds 78 = .ok (.lcmp, 1) := by decide +kernel
theorem dX6_odds_79 : decode cX6_odds 79 = .ok (.ifCond .eq 21, 3) := by decide +kernel
theorem dX6_odds_82 : decode cX6_odds 82 = .ok (.lload 7, 2) := by decide +kernel
theorem dX6_odds_84 : decode cX6_odds 84 = .ok (.lload 9, 2) := by decide +kernel
theorem dX6_odds_86 : decode cX6_odds 86 = .ok (.lrem, 1) := by decide +kernel
theorem dX6_odds_87 : decode cX6_odds 87 = .ok (.lstore 11, 2) := by decide +kernel
theorem dX6_odds_89 : decode cX6_odds 89 = .ok (.lload 9, 2) := by decide +kernel
theorem dX6_odds_91 : decode cX6_odds 91 = .ok (.lstore 7, 2) := by decide +kernel
theorem dX6_odds_93 : decode cX6_odds 93 = .ok (.lload 11, 2) := by decide +kernel
theorem dX6_odds_95 : decode cX6_odds 95 = .ok (.lstore 9, 2) := by decide +kernel
theorem dX6_odds_97 : decode cX6_odds 97 = .ok (.goto (-22), 3) := by decide +kernel
theorem dX6_odds_100 : decode cX6_odds 100 = .ok (.iload_n 2, 1) := by decide +kernel
theorem dX6_odds_101 : decode cX6_odds 101 = .ok (.ifCond .ne 10, 3) := by decide +kernel
theorem dX6_odds_104 : decode cX6_odds 104 = .ok (.lload_n 3, 1) := by decide +kernel
theorem dX6_odds_105 : decode cX6_odds 105 = .ok (.lload 7, 2) := by decide +kernel
theorem dX6_odds_107 : decode cX6_odds 107 = .ok (.ldiv, 1) := by decide +kernel
theorem dX6_odds_108 : decode cX6_odds 108 = .ok (.goto 8, 3) := by decide +kernel
theorem dX6_odds_111 : decode cX6_odds 111 = .ok (.lload 5, 2) := by decide +kernel
theorem dX6_odds_113 : decode cX6_odds 113 = .ok (.lload 7, 2) := by decide +kernel
theorem dX6_odds_115 : decode cX6_odds 115 = .ok (.ldiv, 1) := by decide +kernel
theorem dX6_odds_116 : decode cX6_odds 116 = .ok (.lreturn, 1) := by decide +kernel
theorem dX6_seed_0 : decode cX6_seed 0 = .ok (.aload_n 0, 1) := by decide +kernel
theorem dX6_seed_1 : decode cX6_seed 1 = .ok (.getfield 9, 3) := by decide +kernel
theorem dX6_seed_4 : decode cX6_seed 4 = .ok (.iconst 3, 1) := by decide +kernel
theorem dX6_seed_5 : decode cX6_seed 5 = .ok (.iaload, 1) := by decide +kernel
theorem dX6_seed_6 : decode cX6_seed 6 = .ok (.istore_n 2, 1) := by decide +kernel
theorem dX6_seed_7 : decode cX6_seed 7 = .ok (.aload_n 0, 1) := by decide +kernel
theorem dX6_seed_8 : decode cX6_seed 8 = .ok (.getfield 9, 3) := by decide +kernel
theorem dX6_seed_11 : decode cX6_seed 11 = .ok (.iconst 3, 1) := by decide +kernel
theorem dX6_seed_12 : decode cX6_seed 12 = .ok (.iload_n 1, 1) := by decide +kernel
theorem dX6_seed_13 : decode cX6_seed 13 = .ok (.iastore, 1) := by decide +kernel
theorem dX6_seed_14 : decode cX6_seed 14 = .ok (.iload_n 2, 1) := by decide +kernel
theorem dX6_seed_15 : decode cX6_seed 15 = .ok (.ireturn, 1) := by decide +kernel
theorem dX6_feed_0 : decode cX6_feed 0 = .ok (.iload_n 2, 1) := by decide +kernel
theorem dX6_feed_1 : decode cX6_feed 1 = .ok (.iconst 1, 1) := by decide +kernel
theorem dX6_feed_2 : decode cX6_feed 2 = .ok (.iconst 4, 1) := by decide +kernel
theorem dX6_feed_3 : decode cX6_feed 3 = .ok (.invokestatic 54, 3) := by decide +kernel
theorem dX6_feed_6 : decode cX6_feed 6 = .ok (.ifCond .ne 9, 3) := by decide +kernel
theorem dX6_feed_9 : decode cX6_feed 9 = .ok (.aload_n 0, 1) := by decide +kernel
theorem dX6_feed_10 : decode cX6_feed 10 = .ok (.iconst 0, 1) := by decide +kernel
theorem dX6_feed_11 : decode cX6_feed 11 = .ok (.invokevirtual 94, 3) := by decide +kernel
theorem dX6_feed_14 : decode cX6_feed 14 = .ok (.ireturn, 1) := by decide +kernel
theorem dX6_feed_15 : decode cX6_feed 15 = .ok (.aload_n 0, 1) := by decide +kernel
theorem dX6_feed_16 : decode cX6_feed 16 = .ok (.getfield 198, 3) := by decide +kernel
theorem dX6_feed_19 : decode cX6_feed 19 = .ok (.iload_n 2, 1) := by decide +kernel
theorem dX6_feed_20 : decode cX6_feed 20 = .ok (.iadd, 1) := by decide +kernel
theorem dX6_feed_21 : decode cX6_feed 21 = .ok (.bipush 120, 2) := by decide +kernel
theorem dX6_feed_23 : decode cX6_feed 23 = .ok (.if_icmp .le 9, 3) := by decide +kernel
theorem dX6_feed_26 : decode cX6_feed 26 = .ok (.aload_n 0, 1) := by decide +kernel
theorem dX6_feed_27 : decode cX6_feed 27 = .ok (.iconst 1, 1) := by decide +kernel
theorem dX6_feed_28 : decode cX6_feed 28 = .ok (.invokevirtual 94, 3) := by decide +kernel
theorem dX6_feed_31 : decode cX6_feed 31 = .ok (.ireturn, 1) := by decide +kernel
theorem dX6_feed_32 : decode cX6_feed 32 = .ok (.iload_n 2, 1) := by decide +kernel
theorem dX6_feed_33 : decode cX6_feed 33 = .ok (.iconst 1, 1) := by decide +kernel
theorem dX6_feed_34 : decode cX6_feed 34 = .ok (.isub, 1) := by decide +kernel
theorem dX6_feed_35 : decode cX6_feed 35 = .ok (.istore_n 3, 1) := by decide +kernel
theorem dX6_feed_36 : decode cX6_feed 36 = .ok (.iload_n 3, 1) := by decide +kernel
theorem dX6_feed_37 : decode cX6_feed 37 = .ok (.ifCond .lt 38, 3) := by decide +kernel
theorem dX6_feed_40 : decode cX6_feed 40 = .ok (.aload_n 0, 1) := by decide +kernel
theorem dX6_feed_41 : decode cX6_feed 41 = .ok (.getfield 25, 3) := by decide +kernel
theorem dX6_feed_44 : decode cX6_feed 44 = .ok (.aload_n 0, 1) := by decide +kernel
theorem dX6_feed_45 : decode cX6_feed 45 = .ok (.getfield 198, 3) := by decide +kernel
theorem dX6_feed_48 : decode cX6_feed 48 = .ok (.iload_n 1, 1) := by decide +kernel
theorem dX6_feed_49 : decode cX6_feed 49 = .ok (.bipush 8, 2) := by decide +kernel
theorem dX6_feed_51 : decode cX6_feed 51 = .ok (.iload_n 3, 1) := by decide +kernel
theorem dX6_feed_52 : decode cX6_feed 52 = .ok (.imul, 1) := by decide +kernel
theorem dX6_feed_53 : decode cX6_feed 53 = .ok (.ishr, 1) := by decide +kernel
theorem dX6_feed_54 : decode cX6_feed 54 = .ok (.sipush 255, 3) := by decide +kernel
theorem dX6_feed_57 : decode cX6_feed 57 = .ok (.iand, 1) := by decide +kernel
theorem dX6_feed_58 : decode cX6_feed 58 = .ok (.iastore, 1) := by decide +kernel
theorem dX6_feed_59 : decode cX6_feed 59 = .ok (.aload_n 0, 1) := by decide +kernel
theorem dX6_feed_60 : decode cX6_feed 60 = .ok (.dup, 1) := by decide +kernel
theorem dX6_feed_61 : decode cX6_feed 61 = .ok (.getfield 198, 3) := by decide +kernel
theorem dX6_feed_64 : decode cX6_feed 64 = .ok (.iconst 1, 1) := by decide +kernel
theorem dX6_feed_65 : decode cX6_feed 65 = .ok (.iadd, 1) := by decide +kernel
theorem dX6_feed_66 : decode cX6_feed 66 = .ok (.putfield 198, 3) := by decide +kernel
theorem dX6_feed_69 : decode cX6_feed 69 = .ok (.iinc 3 (-1), 3) := by decide +kernel
theorem dX6_feed_72 : decode cX6_feed 72 = .ok (.goto (-36), 3) := by decide +kernel
theorem dX6_feed_75 : decode cX6_feed 75 = .ok (.aload_n 0, 1) := by decide +kernel
theorem dX6_feed_76 : decode cX6_feed 76 = .ok (.getfield 198, 3) := by decide +kernel
theorem dX6_feed_79 : decode cX6_feed 79 = .ok (.ireturn, 1) := by decide +kernel
theorem dX6_wipe_0 : decode cX6_wipe 0 = .ok (.aload_n 0, 1) := by decide +kernel
theorem dX6_wipe_1 : decode cX6_wipe 1 = .ok (.getfield 198, 3) := by decide +kernel
theorem dX6_wipe_4 : decode cX6_wipe 4 = .ok (.istore_n 1, 1) := by decide +kernel
theorem dX6_wipe_5 : decode cX6_wipe 5 = .ok (.aload_n 0, 1) := by decide +kernel
theorem dX6_wipe_6 : decode cX6_wipe 6 = .ok (.iconst 0, 1) := by decide +kernel
theorem dX6_wipe_7 : decode cX6_wipe 7 = .ok (.putfield 198, 3) := by decide +kernel
theorem dX6_wipe_10 : decode cX6_wipe 10 = .ok (.iload_n 1, 1) := by decide +kernel
theorem dX6_wipe_11 : decode cX6_wipe 11 = .ok (.ireturn, 1) := by decide +kernel
theorem dX6_isLetter_0 : decode cX6_isLetter 0 = .ok (.iload_n 0, 1) := by decide +kernel
theorem dX6_isLetter_1 : decode cX6_isLetter 1 = .ok (.bipush 97, 2) := by decide +kernel
theorem dX6_isLetter_3 : decode cX6_isLetter 3 = .ok (.bipush 122, 2) := by decide +kernel
theorem dX6_isLetter_5 : decode cX6_isLetter 5 = .ok (.invokestatic 54, 3) := by decide +kernel
theorem dX6_isLetter_8 : decode cX6_isLetter 8 = .ok (.ireturn, 1) := by decide +kernel
theorem dX6_isDigit_0 : decode cX6_isDigit 0 = .ok (.iload_n 0, 1) := by decide +kernel
theorem dX6_isDigit_1 : decode cX6_isDigit 1 = .ok (.bipush 48, 2) := by decide +kernel
theorem dX6_isDigit_3 : decode cX6_isDigit 3 = .ok (.bipush 57, 2) := by decide +kernel
theorem dX6_isDigit_5 : decode cX6_isDigit 5 = .ok (.invokestatic 54, 3) := by decide +kernel
theorem dX6_isDigit_8 : decode cX6_isDigit 8 = .ok (.ireturn, 1) := by decide +kernel
theorem dX6_nextToken_0 : decode cX6_nextToken 0 = .ok (.aload_n 0, 1) := by decide +kernel
theorem dX6_nextToken_1 : decode cX6_nextToken 1 = .ok (.aload_n 0, 1) := by decide +kernel
theorem dX6_nextToken_2 : decode cX6_nextToken 2 = .ok (.getfield 202, 3) := by decide +kernel
theorem dX6_nextToken_5 : decode cX6_nextToken 5 = .ok (.putfield 205, 3) := by decide +kernel
theorem dX6_nextToken_8 : decode cX6_nextToken 8 = .ok (.aload_n 0, 1) := by decide +kernel
theorem dX6_nextToken_9 : decode cX6_nextToken 9 = .ok (.getfield 205, 3) := by decide +kernel
theorem dX6_nextToken_12 : decode cX6_nextToken 12 = .ok (.aload_n 0, 1) := by decide +kernel
theorem dX6_nextToken_13 : decode cX6_nextToken 13 = .ok (.getfield 198, 3) := by decide +kernel
theorem dX6_nextToken_16 : decode cX6_nextToken 16 = .ok (.if_icmp .ge 30, 3) := by decide +kernel
theorem dX6_nextToken_19 : decode cX6_nextToken 19 = .ok (.aload_n 0, 1) := by decide +kernel
theorem dX6_nextToken_20 : decode cX6_nextToken 20 = .ok (.getfield 25, 3) := by decide +kernel
theorem dX6_nextToken_23 : decode cX6_nextToken 23 = .ok (.aload_n 0, 1) := by decide +kernel
theorem dX6_nextToken_24 : decode cX6_nextToken 24 = .ok (.getfield 205, 3) := by decide +kernel
theorem dX6_nextToken_27 : decode cX6_nextToken 27 = .ok (.iaload, 1) := by decide +kernel
theorem dX6_nextToken_28 : decode cX6_nextToken 28 = .ok (.bipush 32, 2) := by decide +kernel
theorem dX6_nextToken_30 : decode cX6_nextToken 30 = .ok (.if_icmp .ne 16, 3) := by decide +kernel
theorem dX6_nextToken_33 : decode cX6_nextToken 33 = .ok (.aload_n 0, 1) := by decide +kernel
theorem dX6_nextToken_34 : decode cX6_nextToken 34 = .ok (.dup, 1) := by decide +kernel
theorem dX6_nextToken_35 : decode cX6_nextToken 35 = .ok (.getfield 205, 3) := by decide +kernel
theorem dX6_nextToken_38 : decode cX6_nextToken 38 = .ok (.iconst 1, 1) := by decide +kernel
theorem dX6_nextToken_39 : decode cX6_nextToken 39 = .ok (.iadd, 1) := by decide +kernel
theorem dX6_nextToken_40 : decode cX6_nextToken 40 = .ok (.putfield 205, 3) := by decide +kernel
theorem dX6_nextToken_43 : decode cX6_nextToken 43 = .ok (.goto (-35), 3) := by decide +kernel
theorem dX6_nextToken_46 : decode cX6_nextToken 46 = .ok (.aload_n 0, 1) := by decide +kernel
theorem dX6_nextToken_47 : decode cX6_nextToken 47 = .ok (.aload_n 0, 1) := by decide +kernel
theorem dX6_nextToken_48 : decode cX6_nextToken 48 = .ok (.getfield 205, 3) := by decide +kernel
theorem dX6_nextToken_51 : decode cX6_nextToken 51 = .ok (.putfield 202, 3) := by decide +kernel
theorem dX6_nextToken_54 : decode cX6_nextToken 54 = .ok (.aload_n 0, 1) := by decide +kernel
theorem dX6_nextToken_55 : decode cX6_nextToken 55 = .ok (.lconst 0, 1) := by decide +kernel
theorem dX6_nextToken_56 : decode cX6_nextToken 56 = .ok (.putfield 208, 3) := by decide +kernel
theorem dX6_nextToken_59 : decode cX6_nextToken 59 = .ok (.aload_n 0, 1) := by decide +kernel
theorem dX6_nextToken_60 : decode cX6_nextToken 60 = .ok (.getfield 205, 3) := by decide +kernel
theorem dX6_nextToken_63 : decode cX6_nextToken 63 = .ok (.aload_n 0, 1) := by decide +kernel
theorem dX6_nextToken_64 : decode cX6_nextToken 64 = .ok (.getfield 198, 3) := by decide +kernel
theorem dX6_nextToken_67 : decode cX6_nextToken 67 = .ok (.if_icmp .ne 11, 3) := by decide +kernel
theorem dX6_nextToken_70 : decode cX6_nextToken 70 = .ok (.aload_n 0, 1) := by decide +kernel
theorem dX6_nextToken_71 : decode cX6_nextToken 71 = .ok (.iconst 0, 1) := by decide +kernel
theorem dX6_nextToken_72 : decode cX6_nextToken 72 = .ok (.putfield 212, 3) := by decide +kernel
theorem dX6_nextToken_75 : decode cX6_nextToken 75 = .ok (.goto 262, 3) := by decide +kernel
theorem dX6_nextToken_78 : decode cX6_nextToken 78 = .ok (.aload_n 0, 1) := by decide +kernel
theorem dX6_nextToken_79 : decode cX6_nextToken 79 = .ok (.getfield 25, 3) := by decide +kernel
theorem dX6_nextToken_82 : decode cX6_nextToken 82 = .ok (.aload_n 0, 1) := by decide +kernel
theorem dX6_nextToken_83 : decode cX6_nextToken 83 = .ok (.getfield 205, 3) := by decide +kernel
theorem dX6_nextToken_86 : decode cX6_nextToken 86 = .ok (.iaload, 1) := by decide +kernel
theorem dX6_nextToken_87 : decode cX6_nextToken 87 = .ok (.invokestatic 215, 3) := by decide +kernel
theorem dX6_nextToken_90 : decode cX6_nextToken 90 = .ok (.ifCond .eq 92, 3) := by decide +kernel
theorem dX6_nextToken_93 : decode cX6_nextToken 93 = .ok (.aload_n 0, 1) := by decide +kernel
theorem dX6_nextToken_94 : decode cX6_nextToken 94 = .ok (.iconst 1, 1) := by decide +kernel
theorem dX6_nextToken_95 : decode cX6_nextToken 95 = .ok (.putfield 212, 3) := by decide +kernel
theorem dX6_nextToken_98 : decode cX6_nextToken 98 = .ok (.aload_n 0, 1) := by decide +kernel
theorem dX6_nextToken_99 : decode cX6_nextToken 99 = .ok (.getfield 202, 3) := by decide +kernel
theorem dX6_nextToken_102 : decode cX6_nextToken 102 = .ok (.aload_n 0, 1) := by decide +kernel
theorem dX6_nextToken_103 : decode cX6_nextToken 103 = .ok (.getfield 198, 3) := by decide +kernel
theorem dX6_nextToken_106 : decode cX6_nextToken 106 = .ok (.if_icmp .ge 231, 3) := by decide +kernel
theorem dX6_nextToken_109 : decode cX6_nextToken 109 = .ok (.aload_n 0, 1) := by decide +kernel
theorem dX6_nextToken_110 : decode cX6_nextToken 110 = .ok (.getfield 25, 3) := by decide +kernel
theorem dX6_nextToken_113 : decode cX6_nextToken 113 = .ok (.aload_n 0, 1) := by decide +kernel
theorem dX6_nextToken_114 : decode cX6_nextToken 114 = .ok (.getfield 202, 3) := by decide +kernel
theorem dX6_nextToken_117 : decode cX6_nextToken 117 = .ok (.iaload, 1) := by decide +kernel
theorem dX6_nextToken_118 : decode cX6_nextToken 118 = .ok (.invokestatic 215, 3) := by decide +kernel
theorem dX6_nextToken_121 : decode cX6_nextToken 121 = .ok (.ifCond .eq 216, 3) := by decide +kernel
theorem dX6_nextToken_124 : decode cX6_nextToken 124 = .ok (.aload_n 0, 1) := by decide +kernel
theorem dX6_nextToken_125 : decode cX6_nextToken 125 = .ok (.aload_n 0, 1) := by decide +kernel
theorem dX6_nextToken_126 : decode cX6_nextToken 126 = .ok (.getfield 208, 3) := by decide +kernel
theorem dX6_nextToken_129 : decode cX6_nextToken 129 = .ok (.ldc2_w 218, 3) := by decide +kernel
theorem dX6_nextToken_132 : decode cX6_nextToken 132 = .ok (.lcmp, 1) := by decide +kernel
theorem dX6_nextToken_133 : decode cX6_nextToken 133 = .ok (.ifCond .le 10, 3) := by decide +kernel
theorem dX6_nextToken_136 : decode cX6_nextToken 136 = .ok (.aload_n 0, 1) := by decide +kernel
theorem dX6_nextToken_137 : decode cX6_nextToken 137 = .ok (.getfield 208, 3) := by decide +kernel
theorem dX6_nextToken_140 : decode cX6_nextToken 140 = .ok (.goto 26, 3) := by decide +kernel
theorem dX6_nextToken_143 : decode cX6_nextToken 143 = .ok (.aload_n 0, 1) := by decide +kernel
theorem dX6_nextToken_144 : decode cX6_nextToken 144 = .ok (.getfield 208, 3) := by decide +kernel
theorem dX6_nextToken_147 : decode cX6_nextToken 147 = .ok (.ldc2_w 220, 3) := by decide +kernel
theorem dX6_nextToken_150 : decode cX6_nextToken 150 = .ok (.lmul, 1) := by decide +kernel
theorem dX6_nextToken_151 : decode cX6_nextToken 151 = .ok (.aload_n 0, 1) := by decide +kernel
theorem dX6_nextToken_152 : decode cX6_nextToken 152 = .ok (.getfield 25, 3) := by decide +kernel
theorem dX6_nextToken_155 : decode cX6_nextToken 155 = .ok (.aload_n 0, 1) := by decide +kernel
theorem dX6_nextToken_156 : decode cX6_nextToken 156 = .ok (.getfield 202, 3) := by decide +kernel
theorem dX6_nextToken_159 : decode cX6_nextToken 159 = .ok (.iaload, 1) := by decide +kernel
theorem dX6_nextToken_160 : decode cX6_nextToken 160 = .ok (.i2l, 1) := by decide +kernel
theorem dX6_nextToken_161 : decode cX6_nextToken 161 = .ok (.ladd, 1) := by decide +kernel
theorem dX6_nextToken_162 : decode cX6_nextToken 162 = .ok (.ldc2_w 222, 3) := by decide +kernel
theorem dX6_nextToken_165 : decode cX6_nextToken 165 = .ok (.lsub, 1) := by decide +kernel
theorem dX6_nextToken_166 : decode cX6_nextToken 166 = .ok (.putfield 208, 3) := by decide +kernel
theorem dX6_nextToken_169 : decode cX6_nextToken 169 = .ok (.aload_n 0, 1) := by decide +kernel
theorem dX6_nextToken_170 : decode cX6_nextToken 170 = .ok (.dup, 1) := by decide +kernel
theorem dX6_nextToken_171 : decode cX6_nextToken 171 = .ok (.getfield 202, 3) := by decide +kernel
theorem dX6_nextToken_174 : decode cX6_nextToken 174 = .ok (.iconst 1, 1) := by decide +kernel
theorem dX6_nextToken_175 : decode cX6_nextToken 175 = .ok (.iadd, 1) := by decide +kernel
theorem dX6_nextToken_176 : decode cX6_nextToken 176 = .ok (.putfield 202, 3) := by decide +kernel
theorem dX6_nextToken_179 : decode cX6_nextToken 179 = .ok (.goto (-81), 3) := by decide +kernel
theorem dX6_nextToken_182 : decode cX6_nextToken 182 = .ok (.aload_n 0, 1) := by decide +kernel
theorem dX6_nextToken_183 : decode cX6_nextToken 183 = .ok (.getfield 25, 3) := by decide +kernel
theorem dX6_nextToken_186 : decode cX6_nextToken 186 = .ok (.aload_n 0, 1) := by decide +kernel
theorem dX6_nextToken_187 : decode cX6_nextToken 187 = .ok (.getfield 205, 3) := by decide +kernel
theorem dX6_nextToken_190 : decode cX6_nextToken 190 = .ok (.iaload, 1) := by decide +kernel
theorem dX6_nextToken_191 : decode cX6_nextToken 191 = .ok (.invokestatic 224, 3) := by decide +kernel
theorem dX6_nextToken_194 : decode cX6_nextToken 194 = .ok (.ifCond .eq 110, 3) := by decide +kernel
theorem dX6_nextToken_197 : decode cX6_nextToken 197 = .ok (.aload_n 0, 1) := by decide +kernel
theorem dX6_nextToken_198 : decode cX6_nextToken 198 = .ok (.getfield 202, 3) := by decide +kernel
theorem dX6_nextToken_201 : decode cX6_nextToken 201 = .ok (.aload_n 0, 1) := by decide +kernel
theorem dX6_nextToken_202 : decode cX6_nextToken 202 = .ok (.getfield 198, 3) := by decide +kernel
theorem dX6_nextToken_205 : decode cX6_nextToken 205 = .ok (.if_icmp .ge 76, 3) := by decide +kernel
theorem dX6_nextToken_208 : decode cX6_nextToken 208 = .ok (.aload_n 0, 1) := by decide +kernel
theorem dX6_nextToken_209 : decode cX6_nextToken 209 = .ok (.getfield 25, 3) := by decide +kernel
theorem dX6_nextToken_212 : decode cX6_nextToken 212 = .ok (.aload_n 0, 1) := by decide +kernel
theorem dX6_nextToken_213 : decode cX6_nextToken 213 = .ok (.getfield 202, 3) := by decide +kernel
theorem dX6_nextToken_216 : decode cX6_nextToken 216 = .ok (.iaload, 1) := by decide +kernel
theorem dX6_nextToken_217 : decode cX6_nextToken 217 = .ok (.invokestatic 224, 3) := by decide +kernel
theorem dX6_nextToken_220 : decode cX6_nextToken 220 = .ok (.ifCond .eq 61, 3) := by decide +kernel
theorem dX6_nextToken_223 : decode cX6_nextToken 223 = .ok (.aload_n 0, 1) := by decide +kernel
theorem dX6_nextToken_224 : decode cX6_nextToken 224 = .ok (.aload_n 0, 1) := by decide +kernel
theorem dX6_nextToken_225 : decode cX6_nextToken 225 = .ok (.getfield 208, 3) := by decide +kernel
theorem dX6_nextToken_228 : decode cX6_nextToken 228 = .ok (.ldc2_w 227, 3) := by decide +kernel
theorem dX6_nextToken_231 : decode cX6_nextToken 231 = .ok (.lcmp, 1) := by decide +kernel
theorem dX6_nextToken_232 : decode cX6_nextToken 232 = .ok (.ifCond .le 10, 3) := by decide +kernel
theorem dX6_nextToken_235 : decode cX6_nextToken 235 = .ok (.aload_n 0, 1) := by decide +kernel
theorem dX6_nextToken_236 : decode cX6_nextToken 236 = .ok (.getfield 208, 3) := by decide +kernel
theorem dX6_nextToken_239 : decode cX6_nextToken 239 = .ok (.goto 26, 3) := by decide +kernel
theorem dX6_nextToken_242 : decode cX6_nextToken 242 = .ok (.aload_n 0, 1) := by decide +kernel
theorem dX6_nextToken_243 : decode cX6_nextToken 243 = .ok (.getfield 208, 3) := by decide +kernel
theorem dX6_nextToken_246 : decode cX6_nextToken 246 = .ok (.ldc2_w 229, 3) := by decide +kernel
theorem dX6_nextToken_249 : decode cX6_nextToken 249 = .ok (.lmul, 1) := by decide +kernel
theorem dX6_nextToken_250 : decode cX6_nextToken 250 = .ok (.aload_n 0, 1) := by decide +kernel
theorem dX6_nextToken_251 : decode cX6_nextToken 251 = .ok (.getfield 25, 3) := by decide +kernel
theorem dX6_nextToken_254 : decode cX6_nextToken 254 = .ok (.aload_n 0, 1) := by decide +kernel
theorem dX6_nextToken_255 : decode cX6_nextToken 255 = .ok (.getfield 202, 3) := by decide +kernel
theorem dX6_nextToken_258 : decode cX6_nextToken 258 = .ok (.iaload, 1) := by decide +kernel
theorem dX6_nextToken_259 : decode cX6_nextToken 259 = .ok (.i2l, 1) := by decide +kernel
theorem dX6_nextToken_260 : decode cX6_nextToken 260 = .ok (.ladd, 1) := by decide +kernel
theorem dX6_nextToken_261 : decode cX6_nextToken 261 = .ok (.ldc2_w 231, 3) := by decide +kernel
theorem dX6_nextToken_264 : decode cX6_nextToken 264 = .ok (.lsub, 1) := by decide +kernel
theorem dX6_nextToken_265 : decode cX6_nextToken 265 = .ok (.putfield 208, 3) := by decide +kernel
theorem dX6_nextToken_268 : decode cX6_nextToken 268 = .ok (.aload_n 0, 1) := by decide +kernel
theorem dX6_nextToken_269 : decode cX6_nextToken 269 = .ok (.dup, 1) := by decide +kernel
theorem dX6_nextToken_270 : decode cX6_nextToken 270 = .ok (.getfield 202, 3) := by decide +kernel
theorem dX6_nextToken_273 : decode cX6_nextToken 273 = .ok (.iconst 1, 1) := by decide +kernel
theorem dX6_nextToken_274 : decode cX6_nextToken 274 = .ok (.iadd, 1) := by decide +kernel
theorem dX6_nextToken_275 : decode cX6_nextToken 275 = .ok (.putfield 202, 3) := by decide +kernel
theorem dX6_nextToken_278 : decode cX6_nextToken 278 = .ok (.goto (-81), 3) := by decide +kernel
theorem dX6_nextToken_281 : decode cX6_nextToken 281 = .ok (.aload_n 0, 1) := by decide +kernel
theorem dX6_nextToken_282 : decode cX6_nextToken 282 = .ok (.aload_n 0, 1) := by decide +kernel
theorem dX6_nextToken_283 : decode cX6_nextToken 283 = .ok (.getfield 208, 3) := by decide +kernel
theorem dX6_nextToken_286 : decode cX6_nextToken 286 = .ok (.ldc2_w 227, 3) := by decide +kernel
theorem dX6_nextToken_289 : decode cX6_nextToken 289 = .ok (.lcmp, 1) := by decide +kernel
theorem dX6_nextToken_290 : decode cX6_nextToken 290 = .ok (.ifCond .le 7, 3) := by decide +kernel
theorem dX6_nextToken_293 : decode cX6_nextToken 293 = .ok (.iconst 4, 1) := by decide +kernel
theorem dX6_nextToken_294 : decode cX6_nextToken 294 = .ok (.goto 4, 3) := by decide +kernel
theorem dX6_nextToken_297 : decode cX6_nextToken 297 = .ok (.iconst 2, 1) := by decide +kernel
theorem dX6_nextToken_298 : decode cX6_nextToken 298 = .ok (.putfield 212, 3) := by decide +kernel
theorem dX6_nextToken_301 : decode cX6_nextToken 301 = .ok (.goto 36, 3) := by decide +kernel
theorem dX6_nextToken_304 : decode cX6_nextToken 304 = .ok (.aload_n 0, 1) := by decide +kernel
theorem dX6_nextToken_305 : decode cX6_nextToken 305 = .ok (.aload_n 0, 1) := by decide +kernel
theorem dX6_nextToken_306 : decode cX6_nextToken 306 = .ok (.getfield 25, 3) := by decide +kernel
theorem dX6_nextToken_309 : decode cX6_nextToken 309 = .ok (.aload_n 0, 1) := by decide +kernel
theorem dX6_nextToken_310 : decode cX6_nextToken 310 = .ok (.getfield 205, 3) := by decide +kernel
theorem dX6_nextToken_313 : decode cX6_nextToken 313 = .ok (.iaload, 1) := by decide +kernel
theorem dX6_nextToken_314 : decode cX6_nextToken 314 = .ok (.bipush 59, 2) := by decide +kernel
theorem dX6_nextToken_316 : decode cX6_nextToken 316 = .ok (.if_icmp .ne 7, 3) := by decide +kernel
theorem dX6_nextToken_319 : decode cX6_nextToken 319 = .ok (.iconst 3, 1) := by decide +kernel
theorem dX6_nextToken_320 : decode cX6_nextToken 320 = .ok (.goto 4, 3) := by decide +kernel
theorem dX6_nextToken_323 : decode cX6_nextToken 323 = .ok (.iconst 4, 1) := by decide +kernel
theorem dX6_nextToken_324 : decode cX6_nextToken 324 = .ok (.putfield 212, 3) := by decide +kernel
theorem dX6_nextToken_327 : decode cX6_nextToken 327 = .ok (.aload_n 0, 1) := by decide +kernel
theorem dX6_nextToken_328 : decode cX6_nextToken 328 = .ok (.dup, 1) := by decide +kernel
theorem dX6_nextToken_329 : decode cX6_nextToken 329 = .ok (.getfield 202, 3) := by decide +kernel
theorem dX6_nextToken_332 : decode cX6_nextToken 332 = .ok (.iconst 1, 1) := by decide +kernel
theorem dX6_nextToken_333 : decode cX6_nextToken 333 = .ok (.iadd, 1) := by decide +kernel
theorem dX6_nextToken_334 : decode cX6_nextToken 334 = .ok (.putfield 202, 3) := by decide +kernel
theorem dX6_nextToken_337 : decode cX6_nextToken 337 = .ok (.return_, 1) := by decide +kernel
theorem dX6_wordOf_0 : decode cX6_wordOf 0 = .ok (.iconst (-1), 1) := by decide +kernel
theorem dX6_wordOf_1 : decode cX6_wordOf 1 = .ok (.istore_n 2, 1) := by decide +kernel
theorem dX6_wordOf_2 : decode cX6_wordOf 2 = .ok (.iconst 0, 1) := by decide +kernel
theorem dX6_wordOf_3 : decode cX6_wordOf 3 = .ok (.istore_n 3, 1) := by decide +kernel
theorem dX6_wordOf_4 : decode cX6_wordOf 4 = .ok (.iload_n 3, 1) := by decide +kernel
theorem dX6_wordOf_5 : decode cX6_wordOf 5 = .ok (.aload_n 1, 1) := by decide +kernel
theorem dX6_wordOf_6 : decode cX6_wordOf 6 = .ok (.arraylength, 1) := by decide +kernel
theorem dX6_wordOf_7 : decode cX6_wordOf 7 = .ok (.bipush 8, 2) := by decide +kernel
theorem dX6_wordOf_9 : decode cX6_wordOf 9 = .ok (.idiv, 1) := by decide +kernel
theorem dX6_wordOf_10 : decode cX6_wordOf 10 = .ok (.if_icmp .ge 94, 3) := by decide +kernel
theorem dX6_wordOf_13 : decode cX6_wordOf 13 = .ok (.aload_n 0, 1) := by decide +kernel
theorem dX6_wordOf_14 : decode cX6_wordOf 14 = .ok (.getfield 212, 3) := by decide +kernel
theorem dX6_wordOf_17 : decode cX6_wordOf 17 = .ok (.iconst 1, 1) := by decide +kernel
theorem dX6_wordOf_18 : decode cX6_wordOf 18 = .ok (.if_icmp .ne 86, 3) := by decide +kernel
theorem dX6_wordOf_21 : decode cX6_wordOf 21 = .ok (.lconst 0, 1) := by decide +kernel
theorem dX6_wordOf_22 : decode cX6_wordOf 22 = .ok (.lstore 4, 2) := by decide +kernel
theorem dX6_wordOf_24 : decode cX6_wordOf 24 = .ok (.iconst 0, 1) := by decide +kernel
theorem dX6_wordOf_25 : decode cX6_wordOf 25 = .ok (.istore 6, 2) := by decide +kernel
theorem dX6_wordOf_27 : decode cX6_wordOf 27 = .ok (.iload 6, 2) := by decide +kernel
theorem dX6_wordOf_29 : decode cX6_wordOf 29 = .ok (.bipush 8, 2) := by decide +kernel
theorem dX6_wordOf_31 : decode cX6_wordOf 31 = .ok (.if_icmp .ge 51, 3) := by decide +kernel
theorem dX6_wordOf_34 : decode cX6_wordOf 34 = .ok (.aload_n 1, 1) := by decide +kernel
theorem dX6_wordOf_35 : decode cX6_wordOf 35 = .ok (.bipush 8, 2) := by decide +kernel
theorem dX6_wordOf_37 : decode cX6_wordOf 37 = .ok (.iload_n 3, 1) := by decide +kernel
theorem dX6_wordOf_38 : decode cX6_wordOf 38 = .ok (.imul, 1) := by decide +kernel
theorem dX6_wordOf_39 : decode cX6_wordOf 39 = .ok (.iload 6, 2) := by decide +kernel
theorem dX6_wordOf_41 : decode cX6_wordOf 41 = .ok (.iadd, 1) := by decide +kernel
theorem dX6_wordOf_42 : decode cX6_wordOf 42 = .ok (.caload, 1) := by decide +kernel
theorem dX6_wordOf_43 : decode cX6_wordOf 43 = .ok (.bipush 32, 2) := by decide +kernel
theorem dX6_wordOf_45 : decode cX6_wordOf 45 = .ok (.if_icmp .ne 8, 3) := by decide +kernel
theorem dX6_wordOf_48 : decode cX6_wordOf 48 = .ok (.lload 4, 2) := by decide +kernel
theorem dX6_wordOf_50 : decode cX6_wordOf 50 = .ok (.goto 24, 3) := by decide +kernel
theorem dX6_wordOf_53 : decode cX6_wordOf 53 = .ok (.lload 4, 2) := by decide +kernel
theorem dX6_wordOf_55 : decode cX6_wordOf 55 = .ok (.ldc2_w 220, 3) := by decide +kernel
theorem dX6_wordOf_58 : decode cX6_wordOf 58 = .ok (.lmul, 1) := by decide +kernel
theorem dX6_wordOf_59 : decode cX6_wordOf 59 = .ok (.aload_n 1, 1) := by decide +kernel
theorem dX6_wordOf_60 : decode cX6_wordOf 60 = .ok (.bipush 8, 2) := by decide +kernel
theorem dX6_wordOf_62 : decode cX6_wordOf 62 = .ok (.iload_n 3, 1) := by decide +kernel
theorem dX6_wordOf_63 : decode cX6_wordOf 63 = .ok (.imul, 1) := by decide +kernel
theorem dX6_wordOf_64 : decode cX6_wordOf 64 = .ok (.iload 6, 2) := by decide +kernel
theorem dX6_wordOf_66 : decode cX6_wordOf 66 = .ok (.iadd, 1) := by decide +kernel
theorem dX6_wordOf_67 : decode cX6_wordOf 67 = .ok (.caload, 1) := by decide +kernel
theorem dX6_wordOf_68 : decode cX6_wordOf 68 = .ok (.i2l, 1) := by decide +kernel
theorem dX6_wordOf_69 : decode cX6_wordOf 69 = .ok (.ladd, 1) := by decide +kernel
theorem dX6_wordOf_70 : decode cX6_wordOf 70 = .ok (.ldc2_w 222, 3) := by decide +kernel
theorem dX6_wordOf_73 : decode cX6_wordOf 73 = .ok (.lsub, 1) := by decide +kernel
theorem dX6_wordOf_74 : decode cX6_wordOf 74 = .ok (.lstore 4, 2) := by decide +kernel
theorem dX6_wordOf_76 : decode cX6_wordOf 76 = .ok (.iinc 6 1, 3) := by decide +kernel
theorem dX6_wordOf_79 : decode cX6_wordOf 79 = .ok (.goto (-52), 3) := by decide +kernel
theorem dX6_wordOf_82 : decode cX6_wordOf 82 = .ok (.lload 4, 2) := by decide +kernel
theorem dX6_wordOf_84 : decode cX6_wordOf 84 = .ok (.aload_n 0, 1) := by decide +kernel
theorem dX6_wordOf_85 : decode cX6_wordOf 85 = .ok (.getfield 208, 3) := by decide +kernel
theorem dX6_wordOf_88 : decode cX6_wordOf 88 = .ok (.lcmp, 1) := by decide +kernel
theorem dX6_wordOf_89 : decode cX6_wordOf 89 = .ok (.ifCond .ne 7, 3) := by decide +kernel
theorem dX6_wordOf_92 : decode cX6_wordOf 92 = .ok (.iload_n 3, 1) := by decide +kernel
theorem dX6_wordOf_93 : decode cX6_wordOf 93 = .ok (.goto 4, 3) := by decide +kernel
theorem dX6_wordOf_96 : decode cX6_wordOf 96 = .ok (.iload_n 2, 1) := by decide +kernel
end
section
theorem dX6_wordOf_97 : decode cX6_wordOf 97 = .ok (.istore_n 2, 1) := by decide +kernel
theorem dX6_wordOf_98 : decode cX6_wordOf 98 = .ok (.iinc 3 1, 3) := by decide +kernel
theorem dX6_wordOf_101 : decode cX6_wordOf 101 = .ok (.goto (-97), 3) := by decide +kernel
theorem dX6_wordOf_104 : decode cX6_wordOf 104 = .ok (.iload_n 2, 1) := by decide +kernel
theorem dX6_wordOf_105 : decode cX6_wordOf 105 = .ok (.ireturn, 1) := by decide +kernel
theorem dX6_takesNumber_0 : decode cX6_takesNumber 0 = .ok (.aload_n 0, 1) := by decide +kernel
theorem dX6_takesNumber_1 : decode cX6_takesNumber 1 = .ok (.getfield 212, 3) := by decide +kernel
theorem dX6_takesNumber_4 : decode cX6_takesNumber 4 = .ok (.iconst 2, 1) := by decide +kernel
theorem dX6_takesNumber_5 : decode cX6_takesNumber 5 = .ok (.if_icmp .ne 24, 3) := by decide +kernel
theorem dX6_takesNumber_8 : decode cX6_takesNumber 8 = .ok (.aload_n 0, 1) := by decide +kernel
theorem dX6_takesNumber_9 : decode cX6_takesNumber 9 = .ok (.getfield 208, 3) := by decide +kernel
theorem dX6_takesNumber_12 : decode cX6_takesNumber 12 = .ok (.l2i, 1) := by decide +kernel
theorem dX6_takesNumber_13 : decode cX6_takesNumber 13 = .ok (.iload_n 1, 1) := by decide +kernel
theorem dX6_takesNumber_14 : decode cX6_takesNumber 14 = .ok (.iload_n 2, 1) := by decide +kernel
theorem dX6_takesNumber_15 : decode cX6_takesNumber 15 = .ok (.invokestatic 54, 3) := by decide +kernel
theorem dX6_takesNumber_18 : decode cX6_takesNumber 18 = .ok (.ifCond .eq 11, 3) := by decide +kernel
theorem dX6_takesNumber_21 : decode cX6_takesNumber 21 = .ok (.aload_n 0, 1) := by decide +kernel
theorem dX6_takesNumber_22 : decode cX6_takesNumber 22 = .ok (.getfield 208, 3) := by decide +kernel
theorem dX6_takesNumber_25 : decode cX6_takesNumber 25 = .ok (.l2i, 1) := by decide +kernel
theorem dX6_takesNumber_26 : decode cX6_takesNumber 26 = .ok (.goto 4, 3) := by decide +kernel
theorem dX6_takesNumber_29 : decode cX6_takesNumber 29 = .ok (.iconst (-1), 1) := by decide +kernel
theorem dX6_takesNumber_30 : decode cX6_takesNumber 30 = .ok (.istore_n 3, 1) := by decide +kernel
theorem dX6_takesNumber_31 : decode cX6_takesNumber 31 = .ok (.iload_n 3, 1) := by decide +kernel
theorem dX6_takesNumber_32 : decode cX6_takesNumber 32 = .ok (.ifCond .lt 7, 3) := by decide +kernel
theorem dX6_takesNumber_35 : decode cX6_takesNumber 35 = .ok (.aload_n 0, 1) := by decide +kernel
theorem dX6_takesNumber_36 : decode cX6_takesNumber 36 = .ok (.invokevirtual 233, 3) := by decide +kernel
theorem dX6_takesNumber_39 : decode cX6_takesNumber 39 = .ok (.iload_n 3, 1) := by decide +kernel
theorem dX6_takesNumber_40 : decode cX6_takesNumber 40 = .ok (.ireturn, 1) := by decide +kernel
theorem dX6_readsStar_0 : decode cX6_readsStar 0 = .ok (.aload_n 0, 1) := by decide +kernel
theorem dX6_readsStar_1 : decode cX6_readsStar 1 = .ok (.getfield 9, 3) := by decide +kernel
theorem dX6_readsStar_4 : decode cX6_readsStar 4 = .ok (.iconst 1, 1) := by decide +kernel
theorem dX6_readsStar_5 : decode cX6_readsStar 5 = .ok (.iaload, 1) := by decide +kernel
theorem dX6_readsStar_6 : decode cX6_readsStar 6 = .ok (.bipush 10, 2) := by decide +kernel
theorem dX6_readsStar_8 : decode cX6_readsStar 8 = .ok (.if_icmp .ne 5, 3) := by decide +kernel
theorem dX6_readsStar_11 : decode cX6_readsStar 11 = .ok (.iconst 0, 1) := by decide +kernel
theorem dX6_readsStar_12 : decode cX6_readsStar 12 = .ok (.ireturn, 1) := by decide +kernel
theorem dX6_readsStar_13 : decode cX6_readsStar 13 = .ok (.aload_n 0, 1) := by decide +kernel
theorem dX6_readsStar_14 : decode cX6_readsStar 14 = .ok (.getfield 9, 3) := by decide +kernel
theorem dX6_readsStar_17 : decode cX6_readsStar 17 = .ok (.iconst 1, 1) := by decide +kernel
theorem dX6_readsStar_18 : decode cX6_readsStar 18 = .ok (.iaload, 1) := by decide +kernel
theorem dX6_readsStar_19 : decode cX6_readsStar 19 = .ok (.istore_n 2, 1) := by decide +kernel
theorem dX6_readsStar_20 : decode cX6_readsStar 20 = .ok (.aload_n 0, 1) := by decide +kernel
theorem dX6_readsStar_21 : decode cX6_readsStar 21 = .ok (.iload_n 1, 1) := by decide +kernel
theorem dX6_readsStar_22 : decode cX6_readsStar 22 = .ok (.iconst 0, 1) := by decide +kernel
theorem dX6_readsStar_23 : decode cX6_readsStar 23 = .ok (.invokevirtual 97, 3) := by decide +kernel
theorem dX6_readsStar_26 : decode cX6_readsStar 26 = .ok (.aload_n 0, 1) := by decide +kernel
theorem dX6_readsStar_27 : decode cX6_readsStar 27 = .ok (.invokevirtual 233, 3) := by decide +kernel
theorem dX6_readsStar_30 : decode cX6_readsStar 30 = .ok (.iconst 0, 1) := by decide +kernel
theorem dX6_readsStar_31 : decode cX6_readsStar 31 = .ok (.istore_n 3, 1) := by decide +kernel
theorem dX6_readsStar_32 : decode cX6_readsStar 32 = .ok (.iload_n 3, 1) := by decide +kernel
theorem dX6_readsStar_33 : decode cX6_readsStar 33 = .ok (.iconst 3, 1) := by decide +kernel
theorem dX6_readsStar_34 : decode cX6_readsStar 34 = .ok (.if_icmp .ge 51, 3) := by decide +kernel
theorem dX6_readsStar_37 : decode cX6_readsStar 37 = .ok (.aload_n 0, 1) := by decide +kernel
theorem dX6_readsStar_38 : decode cX6_readsStar 38 = .ok (.aload_n 0, 1) := by decide +kernel
theorem dX6_readsStar_39 : decode cX6_readsStar 39 = .ok (.getfield 32, 3) := by decide +kernel
theorem dX6_readsStar_42 : decode cX6_readsStar 42 = .ok (.invokevirtual 236, 3) := by decide +kernel
theorem dX6_readsStar_45 : decode cX6_readsStar 45 = .ok (.iload_n 3, 1) := by decide +kernel
theorem dX6_readsStar_46 : decode cX6_readsStar 46 = .ok (.if_icmp .ne 33, 3) := by decide +kernel
theorem dX6_readsStar_49 : decode cX6_readsStar 49 = .ok (.aload_n 0, 1) := by decide +kernel
theorem dX6_readsStar_50 : decode cX6_readsStar 50 = .ok (.invokevirtual 233, 3) := by decide +kernel
theorem dX6_readsStar_53 : decode cX6_readsStar 53 = .ok (.aload_n 0, 1) := by decide +kernel
theorem dX6_readsStar_54 : decode cX6_readsStar 54 = .ok (.iconst 0, 1) := by decide +kernel
theorem dX6_readsStar_55 : decode cX6_readsStar 55 = .ok (.bipush 99, 2) := by decide +kernel
theorem dX6_readsStar_57 : decode cX6_readsStar 57 = .ok (.invokevirtual 240, 3) := by decide +kernel
theorem dX6_readsStar_60 : decode cX6_readsStar 60 = .ok (.istore 4, 2) := by decide +kernel
theorem dX6_readsStar_62 : decode cX6_readsStar 62 = .ok (.iload 4, 2) := by decide +kernel
theorem dX6_readsStar_64 : decode cX6_readsStar 64 = .ok (.ifCond .ge 5, 3) := by decide +kernel
theorem dX6_readsStar_67 : decode cX6_readsStar 67 = .ok (.iconst 0, 1) := by decide +kernel
theorem dX6_readsStar_68 : decode cX6_readsStar 68 = .ok (.ireturn, 1) := by decide +kernel
theorem dX6_readsStar_69 : decode cX6_readsStar 69 = .ok (.aload_n 0, 1) := by decide +kernel
theorem dX6_readsStar_70 : decode cX6_readsStar 70 = .ok (.iload_n 2, 1) := by decide +kernel
theorem dX6_readsStar_71 : decode cX6_readsStar 71 = .ok (.iconst 1, 1) := by decide +kernel
theorem dX6_readsStar_72 : decode cX6_readsStar 72 = .ok (.iload_n 3, 1) := by decide +kernel
theorem dX6_readsStar_73 : decode cX6_readsStar 73 = .ok (.iadd, 1) := by decide +kernel
theorem dX6_readsStar_74 : decode cX6_readsStar 74 = .ok (.iload 4, 2) := by decide +kernel
theorem dX6_readsStar_76 : decode cX6_readsStar 76 = .ok (.invokevirtual 80, 3) := by decide +kernel
theorem dX6_readsStar_79 : decode cX6_readsStar 79 = .ok (.iinc 3 1, 3) := by decide +kernel
theorem dX6_readsStar_82 : decode cX6_readsStar 82 = .ok (.goto (-50), 3) := by decide +kernel
theorem dX6_readsStar_85 : decode cX6_readsStar 85 = .ok (.iconst 1, 1) := by decide +kernel
theorem dX6_readsStar_86 : decode cX6_readsStar 86 = .ok (.ireturn, 1) := by decide +kernel
theorem dX6_readsCrew_0 : decode cX6_readsCrew 0 = .ok (.aload_n 0, 1) := by decide +kernel
theorem dX6_readsCrew_1 : decode cX6_readsCrew 1 = .ok (.iconst 0, 1) := by decide +kernel
theorem dX6_readsCrew_2 : decode cX6_readsCrew 2 = .ok (.iconst 3, 1) := by decide +kernel
theorem dX6_readsCrew_3 : decode cX6_readsCrew 3 = .ok (.invokevirtual 240, 3) := by decide +kernel
theorem dX6_readsCrew_6 : decode cX6_readsCrew 6 = .ok (.istore_n 1, 1) := by decide +kernel
theorem dX6_readsCrew_7 : decode cX6_readsCrew 7 = .ok (.iload_n 1, 1) := by decide +kernel
theorem dX6_readsCrew_8 : decode cX6_readsCrew 8 = .ok (.ifCond .ge 5, 3) := by decide +kernel
theorem dX6_readsCrew_11 : decode cX6_readsCrew 11 = .ok (.iconst 0, 1) := by decide +kernel
theorem dX6_readsCrew_12 : decode cX6_readsCrew 12 = .ok (.ireturn, 1) := by decide +kernel
theorem dX6_readsCrew_13 : decode cX6_readsCrew 13 = .ok (.iconst 0, 1) := by decide +kernel
theorem dX6_readsCrew_14 : decode cX6_readsCrew 14 = .ok (.istore_n 2, 1) := by decide +kernel
theorem dX6_readsCrew_15 : decode cX6_readsCrew 15 = .ok (.iload_n 2, 1) := by decide +kernel
theorem dX6_readsCrew_16 : decode cX6_readsCrew 16 = .ok (.iconst 2, 1) := by decide +kernel
theorem dX6_readsCrew_17 : decode cX6_readsCrew 17 = .ok (.if_icmp .ge 63, 3) := by decide +kernel
theorem dX6_readsCrew_20 : decode cX6_readsCrew 20 = .ok (.aload_n 0, 1) := by decide +kernel
theorem dX6_readsCrew_21 : decode cX6_readsCrew 21 = .ok (.aload_n 0, 1) := by decide +kernel
theorem dX6_readsCrew_22 : decode cX6_readsCrew 22 = .ok (.getfield 35, 3) := by decide +kernel
theorem dX6_readsCrew_25 : decode cX6_readsCrew 25 = .ok (.invokevirtual 236, 3) := by decide +kernel
theorem dX6_readsCrew_28 : decode cX6_readsCrew 28 = .ok (.iload_n 2, 1) := by decide +kernel
theorem dX6_readsCrew_29 : decode cX6_readsCrew 29 = .ok (.if_icmp .ne 45, 3) := by decide +kernel
theorem dX6_readsCrew_32 : decode cX6_readsCrew 32 = .ok (.aload_n 0, 1) := by decide +kernel
theorem dX6_readsCrew_33 : decode cX6_readsCrew 33 = .ok (.invokevirtual 233, 3) := by decide +kernel
theorem dX6_readsCrew_36 : decode cX6_readsCrew 36 = .ok (.aload_n 0, 1) := by decide +kernel
theorem dX6_readsCrew_37 : decode cX6_readsCrew 37 = .ok (.iconst 0, 1) := by decide +kernel
theorem dX6_readsCrew_38 : decode cX6_readsCrew 38 = .ok (.iload_n 2, 1) := by decide +kernel
theorem dX6_readsCrew_39 : decode cX6_readsCrew 39 = .ok (.ifCond .ne 8, 3) := by decide +kernel
theorem dX6_readsCrew_42 : decode cX6_readsCrew 42 = .ok (.bipush 99, 2) := by decide +kernel
theorem dX6_readsCrew_44 : decode cX6_readsCrew 44 = .ok (.goto 6, 3) := by decide +kernel
theorem dX6_readsCrew_47 : decode cX6_readsCrew 47 = .ok (.sipush 999, 3) := by decide +kernel
theorem dX6_readsCrew_50 : decode cX6_readsCrew 50 = .ok (.invokevirtual 240, 3) := by decide +kernel
theorem dX6_readsCrew_53 : decode cX6_readsCrew 53 = .ok (.istore_n 3, 1) := by decide +kernel
theorem dX6_readsCrew_54 : decode cX6_readsCrew 54 = .ok (.iload_n 3, 1) := by decide +kernel
theorem dX6_readsCrew_55 : decode cX6_readsCrew 55 = .ok (.ifCond .ge 5, 3) := by decide +kernel
theorem dX6_readsCrew_58 : decode cX6_readsCrew 58 = .ok (.iconst 0, 1) := by decide +kernel
theorem dX6_readsCrew_59 : decode cX6_readsCrew 59 = .ok (.ireturn, 1) := by decide +kernel
theorem dX6_readsCrew_60 : decode cX6_readsCrew 60 = .ok (.aload_n 0, 1) := by decide +kernel
theorem dX6_readsCrew_61 : decode cX6_readsCrew 61 = .ok (.getfield 9, 3) := by decide +kernel
theorem dX6_readsCrew_64 : decode cX6_readsCrew 64 = .ok (.bipush 8, 2) := by decide +kernel
theorem dX6_readsCrew_66 : decode cX6_readsCrew 66 = .ok (.iconst 2, 1) := by decide +kernel
theorem dX6_readsCrew_67 : decode cX6_readsCrew 67 = .ok (.iload_n 1, 1) := by decide +kernel
theorem dX6_readsCrew_68 : decode cX6_readsCrew 68 = .ok (.imul, 1) := by decide +kernel
theorem dX6_readsCrew_69 : decode cX6_readsCrew 69 = .ok (.iadd, 1) := by decide +kernel
theorem dX6_readsCrew_70 : decode cX6_readsCrew 70 = .ok (.iload_n 2, 1) := by decide +kernel
theorem dX6_readsCrew_71 : decode cX6_readsCrew 71 = .ok (.iadd, 1) := by decide +kernel
theorem dX6_readsCrew_72 : decode cX6_readsCrew 72 = .ok (.iload_n 3, 1) := by decide +kernel
theorem dX6_readsCrew_73 : decode cX6_readsCrew 73 = .ok (.iastore, 1) := by decide +kernel
theorem dX6_readsCrew_74 : decode cX6_readsCrew 74 = .ok (.iinc 2 1, 3) := by decide +kernel
theorem dX6_readsCrew_77 : decode cX6_readsCrew 77 = .ok (.goto (-62), 3) := by decide +kernel
theorem dX6_readsCrew_80 : decode cX6_readsCrew 80 = .ok (.iconst 1, 1) := by decide +kernel
theorem dX6_readsCrew_81 : decode cX6_readsCrew 81 = .ok (.ireturn, 1) := by decide +kernel
theorem dX6_readsItem_0 : decode cX6_readsItem 0 = .ok (.aload_n 0, 1) := by decide +kernel
theorem dX6_readsItem_1 : decode cX6_readsItem 1 = .ok (.aload_n 0, 1) := by decide +kernel
theorem dX6_readsItem_2 : decode cX6_readsItem 2 = .ok (.getfield 28, 3) := by decide +kernel
theorem dX6_readsItem_5 : decode cX6_readsItem 5 = .ok (.invokevirtual 236, 3) := by decide +kernel
theorem dX6_readsItem_8 : decode cX6_readsItem 8 = .ok (.istore_n 1, 1) := by decide +kernel
theorem dX6_readsItem_9 : decode cX6_readsItem 9 = .ok (.iload_n 1, 1) := by decide +kernel
theorem dX6_readsItem_10 : decode cX6_readsItem 10 = .ok (.ifCond .lt 9, 3) := by decide +kernel
theorem dX6_readsItem_13 : decode cX6_readsItem 13 = .ok (.aload_n 0, 1) := by decide +kernel
theorem dX6_readsItem_14 : decode cX6_readsItem 14 = .ok (.iload_n 1, 1) := by decide +kernel
theorem dX6_readsItem_15 : decode cX6_readsItem 15 = .ok (.invokevirtual 243, 3) := by decide +kernel
theorem dX6_readsItem_18 : decode cX6_readsItem 18 = .ok (.ireturn, 1) := by decide +kernel
theorem dX6_readsItem_19 : decode cX6_readsItem 19 = .ok (.aload_n 0, 1) := by decide +kernel
theorem dX6_readsItem_20 : decode cX6_readsItem 20 = .ok (.aload_n 0, 1) := by decide +kernel
theorem dX6_readsItem_21 : decode cX6_readsItem 21 = .ok (.getfield 38, 3) := by decide +kernel
theorem dX6_readsItem_24 : decode cX6_readsItem 24 = .ok (.invokevirtual 236, 3) := by decide +kernel
theorem dX6_readsItem_27 : decode cX6_readsItem 27 = .ok (.istore_n 2, 1) := by decide +kernel
theorem dX6_readsItem_28 : decode cX6_readsItem 28 = .ok (.iload_n 2, 1) := by decide +kernel
theorem dX6_readsItem_29 : decode cX6_readsItem 29 = .ok (.ifCond .lt 19, 3) := by decide +kernel
theorem dX6_readsItem_32 : decode cX6_readsItem 32 = .ok (.iload_n 2, 1) := by decide +kernel
theorem dX6_readsItem_33 : decode cX6_readsItem 33 = .ok (.iconst 5, 1) := by decide +kernel
theorem dX6_readsItem_34 : decode cX6_readsItem 34 = .ok (.if_icmp .ne 16, 3) := by decide +kernel
theorem dX6_readsItem_37 : decode cX6_readsItem 37 = .ok (.aload_n 0, 1) := by decide +kernel
theorem dX6_readsItem_38 : decode cX6_readsItem 38 = .ok (.getfield 9, 3) := by decide +kernel
theorem dX6_readsItem_41 : decode cX6_readsItem 41 = .ok (.iconst 2, 1) := by decide +kernel
theorem dX6_readsItem_42 : decode cX6_readsItem 42 = .ok (.iaload, 1) := by decide +kernel
theorem dX6_readsItem_43 : decode cX6_readsItem 43 = .ok (.bipush 6, 2) := by decide +kernel
theorem dX6_readsItem_45 : decode cX6_readsItem 45 = .ok (.if_icmp .ne 5, 3) := by decide +kernel
theorem dX6_readsItem_48 : decode cX6_readsItem 48 = .ok (.iconst 0, 1) := by decide +kernel
theorem dX6_readsItem_49 : decode cX6_readsItem 49 = .ok (.ireturn, 1) := by decide +kernel
theorem dX6_readsItem_50 : decode cX6_readsItem 50 = .ok (.aload_n 0, 1) := by decide +kernel
theorem dX6_readsItem_51 : decode cX6_readsItem 51 = .ok (.invokevirtual 233, 3) := by decide +kernel
theorem dX6_readsItem_54 : decode cX6_readsItem 54 = .ok (.iload_n 2, 1) := by decide +kernel
theorem dX6_readsItem_55 : decode cX6_readsItem 55 = .ok (.iconst 4, 1) := by decide +kernel
theorem dX6_readsItem_56 : decode cX6_readsItem 56 = .ok (.if_icmp .ne 8, 3) := by decide +kernel
theorem dX6_readsItem_59 : decode cX6_readsItem 59 = .ok (.aload_n 0, 1) := by decide +kernel
theorem dX6_readsItem_60 : decode cX6_readsItem 60 = .ok (.invokevirtual 246, 3) := by decide +kernel
theorem dX6_readsItem_63 : decode cX6_readsItem 63 = .ok (.ireturn, 1) := by decide +kernel
theorem dX6_readsItem_64 : decode cX6_readsItem 64 = .ok (.iload_n 2, 1) := by decide +kernel
theorem dX6_readsItem_65 : decode cX6_readsItem 65 = .ok (.iconst 5, 1) := by decide +kernel
theorem dX6_readsItem_66 : decode cX6_readsItem 66 = .ok (.if_icmp .ne 21, 3) := by decide +kernel
theorem dX6_readsItem_69 : decode cX6_readsItem 69 = .ok (.aload_n 0, 1) := by decide +kernel
theorem dX6_readsItem_70 : decode cX6_readsItem 70 = .ok (.iconst 1, 1) := by decide +kernel
theorem dX6_readsItem_71 : decode cX6_readsItem 71 = .ok (.iconst 1, 1) := by decide +kernel
theorem dX6_readsItem_72 : decode cX6_readsItem 72 = .ok (.aload_n 0, 1) := by decide +kernel
theorem dX6_readsItem_73 : decode cX6_readsItem 73 = .ok (.getfield 9, 3) := by decide +kernel
theorem dX6_readsItem_76 : decode cX6_readsItem 76 = .ok (.iconst 1, 1) := by decide +kernel
theorem dX6_readsItem_77 : decode cX6_readsItem 77 = .ok (.iaload, 1) := by decide +kernel
theorem dX6_readsItem_78 : decode cX6_readsItem 78 = .ok (.ishl, 1) := by decide +kernel
theorem dX6_readsItem_79 : decode cX6_readsItem 79 = .ok (.iconst 1, 1) := by decide +kernel
theorem dX6_readsItem_80 : decode cX6_readsItem 80 = .ok (.isub, 1) := by decide +kernel
theorem dX6_readsItem_81 : decode cX6_readsItem 81 = .ok (.invokevirtual 240, 3) := by decide +kernel
theorem dX6_readsItem_84 : decode cX6_readsItem 84 = .ok (.goto 12, 3) := by decide +kernel
theorem dX6_readsItem_87 : decode cX6_readsItem 87 = .ok (.aload_n 0, 1) := by decide +kernel
theorem dX6_readsItem_88 : decode cX6_readsItem 88 = .ok (.iconst 0, 1) := by decide +kernel
theorem dX6_readsItem_89 : decode cX6_readsItem 89 = .ok (.iload_n 2, 1) := by decide +kernel
theorem dX6_readsItem_90 : decode cX6_readsItem 90 = .ok (.invokestatic 107, 3) := by decide +kernel
theorem dX6_readsItem_93 : decode cX6_readsItem 93 = .ok (.invokevirtual 240, 3) := by decide +kernel
theorem dX6_readsItem_96 : decode cX6_readsItem 96 = .ok (.istore_n 3, 1) := by decide +kernel
theorem dX6_readsItem_97 : decode cX6_readsItem 97 = .ok (.iload_n 3, 1) := by decide +kernel
theorem dX6_readsItem_98 : decode cX6_readsItem 98 = .ok (.ifCond .ge 5, 3) := by decide +kernel
theorem dX6_readsItem_101 : decode cX6_readsItem 101 = .ok (.iconst 0, 1) := by decide +kernel
theorem dX6_readsItem_102 : decode cX6_readsItem 102 = .ok (.ireturn, 1) := by decide +kernel
theorem dX6_readsItem_103 : decode cX6_readsItem 103 = .ok (.iload_n 2, 1) := by decide +kernel
theorem dX6_readsItem_104 : decode cX6_readsItem 104 = .ok (.iconst 5, 1) := by decide +kernel
theorem dX6_readsItem_105 : decode cX6_readsItem 105 = .ok (.if_icmp .ne 11, 3) := by decide +kernel
theorem dX6_readsItem_108 : decode cX6_readsItem 108 = .ok (.aload_n 0, 1) := by decide +kernel
theorem dX6_readsItem_109 : decode cX6_readsItem 109 = .ok (.iload_n 3, 1) := by decide +kernel
theorem dX6_readsItem_110 : decode cX6_readsItem 110 = .ok (.invokevirtual 168, 3) := by decide +kernel
theorem dX6_readsItem_113 : decode cX6_readsItem 113 = .ok (.goto 12, 3) := by decide +kernel
theorem dX6_readsItem_116 : decode cX6_readsItem 116 = .ok (.aload_n 0, 1) := by decide +kernel
theorem dX6_readsItem_117 : decode cX6_readsItem 117 = .ok (.getfield 9, 3) := by decide +kernel
theorem dX6_readsItem_120 : decode cX6_readsItem 120 = .ok (.iconst 4, 1) := by decide +kernel
theorem dX6_readsItem_121 : decode cX6_readsItem 121 = .ok (.iload_n 2, 1) := by decide +kernel
theorem dX6_readsItem_122 : decode cX6_readsItem 122 = .ok (.iadd, 1) := by decide +kernel
theorem dX6_readsItem_123 : decode cX6_readsItem 123 = .ok (.iload_n 3, 1) := by decide +kernel
theorem dX6_readsItem_124 : decode cX6_readsItem 124 = .ok (.iastore, 1) := by decide +kernel
theorem dX6_readsItem_125 : decode cX6_readsItem 125 = .ok (.iconst 1, 1) := by decide +kernel
theorem dX6_readsItem_126 : decode cX6_readsItem 126 = .ok (.ireturn, 1) := by decide +kernel
theorem dX6_text_0 : decode cX6_text 0 = .ok (.aload_n 0, 1) := by decide +kernel
theorem dX6_text_1 : decode cX6_text 1 = .ok (.invokevirtual 133, 3) := by decide +kernel
theorem dX6_text_4 : decode cX6_text 4 = .ok (.aload_n 0, 1) := by decide +kernel
theorem dX6_text_5 : decode cX6_text 5 = .ok (.iconst 0, 1) := by decide +kernel
theorem dX6_text_6 : decode cX6_text 6 = .ok (.putfield 202, 3) := by decide +kernel
theorem dX6_text_9 : decode cX6_text 9 = .ok (.aload_n 0, 1) := by decide +kernel
theorem dX6_text_10 : decode cX6_text 10 = .ok (.invokevirtual 233, 3) := by decide +kernel
theorem dX6_text_13 : decode cX6_text 13 = .ok (.iconst 1, 1) := by decide +kernel
theorem dX6_text_14 : decode cX6_text 14 = .ok (.istore_n 1, 1) := by decide +kernel
theorem dX6_text_15 : decode cX6_text 15 = .ok (.aload_n 0, 1) := by decide +kernel
theorem dX6_text_16 : decode cX6_text 16 = .ok (.invokevirtual 250, 3) := by decide +kernel
theorem dX6_text_19 : decode cX6_text 19 = .ok (.istore_n 2, 1) := by decide +kernel
theorem dX6_text_20 : decode cX6_text 20 = .ok (.iload_n 2, 1) := by decide +kernel
theorem dX6_text_21 : decode cX6_text 21 = .ok (.ifCond .eq 26, 3) := by decide +kernel
theorem dX6_text_24 : decode cX6_text 24 = .ok (.aload_n 0, 1) := by decide +kernel
theorem dX6_text_25 : decode cX6_text 25 = .ok (.getfield 212, 3) := by decide +kernel
theorem dX6_text_28 : decode cX6_text 28 = .ok (.iconst 3, 1) := by decide +kernel
theorem dX6_text_29 : decode cX6_text 29 = .ok (.if_icmp .ne 18, 3) := by decide +kernel
theorem dX6_text_32 : decode cX6_text 32 = .ok (.aload_n 0, 1) := by decide +kernel
theorem dX6_text_33 : decode cX6_text 33 = .ok (.invokevirtual 233, 3) := by decide +kernel
theorem dX6_text_36 : decode cX6_text 36 = .ok (.aload_n 0, 1) := by decide +kernel
theorem dX6_text_37 : decode cX6_text 37 = .ok (.invokevirtual 250, 3) := by decide +kernel
theorem dX6_text_40 : decode cX6_text 40 = .ok (.istore_n 2, 1) := by decide +kernel
theorem dX6_text_41 : decode cX6_text 41 = .ok (.iinc 1 1, 3) := by decide +kernel
theorem dX6_text_44 : decode cX6_text 44 = .ok (.goto (-24), 3) := by decide +kernel
theorem dX6_text_47 : decode cX6_text 47 = .ok (.iload_n 2, 1) := by decide +kernel
theorem dX6_text_48 : decode cX6_text 48 = .ok (.ifCond .eq 14, 3) := by decide +kernel
theorem dX6_text_51 : decode cX6_text 51 = .ok (.aload_n 0, 1) := by decide +kernel
theorem dX6_text_52 : decode cX6_text 52 = .ok (.getfield 212, 3) := by decide +kernel
theorem dX6_text_55 : decode cX6_text 55 = .ok (.ifCond .ne 7, 3) := by decide +kernel
theorem dX6_text_58 : decode cX6_text 58 = .ok (.iconst 1, 1) := by decide +kernel
theorem dX6_text_59 : decode cX6_text 59 = .ok (.goto 4, 3) := by decide +kernel
theorem dX6_text_62 : decode cX6_text 62 = .ok (.iconst 0, 1) := by decide +kernel
theorem dX6_text_63 : decode cX6_text 63 = .ok (.istore_n 2, 1) := by decide +kernel
theorem dX6_text_64 : decode cX6_text 64 = .ok (.aload_n 0, 1) := by decide +kernel
theorem dX6_text_65 : decode cX6_text 65 = .ok (.iconst 0, 1) := by decide +kernel
theorem dX6_text_66 : decode cX6_text 66 = .ok (.putfield 198, 3) := by decide +kernel
theorem dX6_text_69 : decode cX6_text 69 = .ok (.iload_n 2, 1) := by decide +kernel
theorem dX6_text_70 : decode cX6_text 70 = .ok (.ifCond .ne 14, 3) := by decide +kernel
theorem dX6_text_73 : decode cX6_text 73 = .ok (.aload_n 0, 1) := by decide +kernel
theorem dX6_text_74 : decode cX6_text 74 = .ok (.invokevirtual 136, 3) := by decide +kernel
theorem dX6_text_77 : decode cX6_text 77 = .ok (.iconst (-1), 1) := by decide +kernel
theorem dX6_text_78 : decode cX6_text 78 = .ok (.aload_n 0, 1) := by decide +kernel
theorem dX6_text_79 : decode cX6_text 79 = .ok (.getfield 205, 3) := by decide +kernel
theorem dX6_text_82 : decode cX6_text 82 = .ok (.isub, 1) := by decide +kernel
theorem dX6_text_83 : decode cX6_text 83 = .ok (.ireturn, 1) := by decide +kernel
theorem dX6_text_84 : decode cX6_text 84 = .ok (.iload_n 1, 1) := by decide +kernel
theorem dX6_text_85 : decode cX6_text 85 = .ok (.ireturn, 1) := by decide +kernel
theorem dX6_isSpot_0 : decode cX6_isSpot 0 = .ok (.iload_n 0, 1) := by decide +kernel
theorem dX6_isSpot_1 : decode cX6_isSpot 1 = .ok (.iconst 0, 1) := by decide +kernel
theorem dX6_isSpot_2 : decode cX6_isSpot 2 = .ok (.bipush 9, 2) := by decide +kernel
theorem dX6_isSpot_4 : decode cX6_isSpot 4 = .ok (.invokestatic 54, 3) := by decide +kernel
theorem dX6_isSpot_7 : decode cX6_isSpot 7 = .ok (.ireturn, 1) := by decide +kernel
theorem dX6_hold_0 : decode cX6_hold 0 = .ok (.iload_n 1, 1) := by decide +kernel
theorem dX6_hold_1 : decode cX6_hold 1 = .ok (.invokestatic 253, 3) := by decide +kernel
theorem dX6_hold_4 : decode cX6_hold 4 = .ok (.ifCond .eq 16, 3) := by decide +kernel
theorem dX6_hold_7 : decode cX6_hold 7 = .ok (.iload_n 2, 1) := by decide +kernel
theorem dX6_hold_8 : decode cX6_hold 8 = .ok (.iconst (-1), 1) := by decide +kernel
theorem dX6_hold_9 : decode cX6_hold 9 = .ok (.if_icmp .eq 17, 3) := by decide +kernel
theorem dX6_hold_12 : decode cX6_hold 12 = .ok (.aload_n 0, 1) := by decide +kernel
theorem dX6_hold_13 : decode cX6_hold 13 = .ok (.iload_n 2, 1) := by decide +kernel
theorem dX6_hold_14 : decode cX6_hold 14 = .ok (.invokevirtual 101, 3) := by decide +kernel
theorem dX6_hold_17 : decode cX6_hold 17 = .ok (.ifCond .ne 9, 3) := by decide +kernel
theorem dX6_hold_20 : decode cX6_hold 20 = .ok (.aload_n 0, 1) := by decide +kernel
theorem dX6_hold_21 : decode cX6_hold 21 = .ok (.iconst 0, 1) := by decide +kernel
theorem dX6_hold_22 : decode cX6_hold 22 = .ok (.invokevirtual 94, 3) := by decide +kernel
theorem dX6_hold_25 : decode cX6_hold 25 = .ok (.ireturn, 1) := by decide +kernel
theorem dX6_hold_26 : decode cX6_hold 26 = .ok (.aload_n 0, 1) := by decide +kernel
theorem dX6_hold_27 : decode cX6_hold 27 = .ok (.getfield 9, 3) := by decide +kernel
theorem dX6_hold_30 : decode cX6_hold 30 = .ok (.bipush 62, 2) := by decide +kernel
theorem dX6_hold_32 : decode cX6_hold 32 = .ok (.iload_n 1, 1) := by decide +kernel
theorem dX6_hold_33 : decode cX6_hold 33 = .ok (.iadd, 1) := by decide +kernel
theorem dX6_hold_34 : decode cX6_hold 34 = .ok (.iload_n 2, 1) := by decide +kernel
theorem dX6_hold_35 : decode cX6_hold 35 = .ok (.iastore, 1) := by decide +kernel
theorem dX6_hold_36 : decode cX6_hold 36 = .ok (.iconst 1, 1) := by decide +kernel
theorem dX6_hold_37 : decode cX6_hold 37 = .ok (.ireturn, 1) := by decide +kernel
theorem dX6_above_0 : decode cX6_above 0 = .ok (.iload_n 0, 1) := by decide +kernel
theorem dX6_above_1 : decode cX6_above 1 = .ok (.iconst 3, 1) := by decide +kernel
theorem dX6_above_2 : decode cX6_above 2 = .ok (.if_icmp .ne 7, 3) := by decide +kernel
theorem dX6_above_5 : decode cX6_above 5 = .ok (.iconst 2, 1) := by decide +kernel
theorem dX6_above_6 : decode cX6_above 6 = .ok (.goto 23, 3) := by decide +kernel
theorem dX6_above_9 : decode cX6_above 9 = .ok (.iload_n 0, 1) := by decide +kernel
theorem dX6_above_10 : decode cX6_above 10 = .ok (.iconst 4, 1) := by decide +kernel
theorem dX6_above_11 : decode cX6_above 11 = .ok (.if_icmp .ne 7, 3) := by decide +kernel
theorem dX6_above_14 : decode cX6_above 14 = .ok (.iconst 3, 1) := by decide +kernel
theorem dX6_above_15 : decode cX6_above 15 = .ok (.goto 14, 3) := by decide +kernel
theorem dX6_above_18 : decode cX6_above 18 = .ok (.iload_n 0, 1) := by decide +kernel
theorem dX6_above_19 : decode cX6_above 19 = .ok (.bipush 6, 2) := by decide +kernel
theorem dX6_above_21 : decode cX6_above 21 = .ok (.if_icmp .ne 7, 3) := by decide +kernel
theorem dX6_above_24 : decode cX6_above 24 = .ok (.iconst 1, 1) := by decide +kernel
theorem dX6_above_25 : decode cX6_above 25 = .ok (.goto 4, 3) := by decide +kernel
theorem dX6_above_28 : decode cX6_above 28 = .ok (.iconst 0, 1) := by decide +kernel
theorem dX6_above_29 : decode cX6_above 29 = .ok (.ireturn, 1) := by decide +kernel
theorem dX6_as_0 : decode cX6_as 0 = .ok (.iload_n 1, 1) := by decide +kernel
theorem dX6_as_1 : decode cX6_as 1 = .ok (.invokestatic 253, 3) := by decide +kernel
theorem dX6_as_4 : decode cX6_as 4 = .ok (.ifCond .eq 13, 3) := by decide +kernel
theorem dX6_as_7 : decode cX6_as 7 = .ok (.iload_n 2, 1) := by decide +kernel
theorem dX6_as_8 : decode cX6_as 8 = .ok (.iconst 0, 1) := by decide +kernel
theorem dX6_as_9 : decode cX6_as 9 = .ok (.bipush 6, 2) := by decide +kernel
theorem dX6_as_11 : decode cX6_as 11 = .ok (.invokestatic 54, 3) := by decide +kernel
theorem dX6_as_14 : decode cX6_as 14 = .ok (.ifCond .ne 9, 3) := by decide +kernel
theorem dX6_as_17 : decode cX6_as 17 = .ok (.aload_n 0, 1) := by decide +kernel
theorem dX6_as_18 : decode cX6_as 18 = .ok (.iconst 0, 1) := by decide +kernel
theorem dX6_as_19 : decode cX6_as 19 = .ok (.invokevirtual 94, 3) := by decide +kernel
theorem dX6_as_22 : decode cX6_as 22 = .ok (.ireturn, 1) := by decide +kernel
theorem dX6_as_23 : decode cX6_as 23 = .ok (.aload_n 0, 1) := by decide +kernel
theorem dX6_as_24 : decode cX6_as 24 = .ok (.getfield 9, 3) := by decide +kernel
theorem dX6_as_27 : decode cX6_as 27 = .ok (.bipush 62, 2) := by decide +kernel
theorem dX6_as_29 : decode cX6_as 29 = .ok (.iload_n 1, 1) := by decide +kernel
theorem dX6_as_30 : decode cX6_as 30 = .ok (.iadd, 1) := by decide +kernel
theorem dX6_as_31 : decode cX6_as 31 = .ok (.iaload, 1) := by decide +kernel
theorem dX6_as_32 : decode cX6_as 32 = .ok (.istore_n 3, 1) := by decide +kernel
theorem dX6_as_33 : decode cX6_as 33 = .ok (.iload_n 3, 1) := by decide +kernel
theorem dX6_as_34 : decode cX6_as 34 = .ok (.ifCond .ge 9, 3) := by decide +kernel
theorem dX6_as_37 : decode cX6_as 37 = .ok (.aload_n 0, 1) := by decide +kernel
theorem dX6_as_38 : decode cX6_as 38 = .ok (.iconst 5, 1) := by decide +kernel
theorem dX6_as_39 : decode cX6_as 39 = .ok (.invokevirtual 94, 3) := by decide +kernel
theorem dX6_as_42 : decode cX6_as 42 = .ok (.ireturn, 1) := by decide +kernel
theorem dX6_as_43 : decode cX6_as 43 = .ok (.aload_n 0, 1) := by decide +kernel
theorem dX6_as_44 : decode cX6_as 44 = .ok (.iload_n 3, 1) := by decide +kernel
theorem dX6_as_45 : decode cX6_as 45 = .ok (.iconst 0, 1) := by decide +kernel
theorem dX6_as_46 : decode cX6_as 46 = .ok (.invokevirtual 58, 3) := by decide +kernel
theorem dX6_as_49 : decode cX6_as 49 = .ok (.istore 4, 2) := by decide +kernel
theorem dX6_as_51 : decode cX6_as 51 = .ok (.iload 4, 2) := by decide +kernel
theorem dX6_as_53 : decode cX6_as 53 = .ok (.iload_n 2, 1) := by decide +kernel
theorem dX6_as_54 : decode cX6_as 54 = .ok (.if_icmp .eq 18, 3) := by decide +kernel
theorem dX6_as_57 : decode cX6_as 57 = .ok (.iload 4, 2) := by decide +kernel
theorem dX6_as_59 : decode cX6_as 59 = .ok (.ifCond .eq 13, 3) := by decide +kernel
theorem dX6_as_62 : decode cX6_as 62 = .ok (.iload 4, 2) := by decide +kernel
theorem dX6_as_64 : decode cX6_as 64 = .ok (.invokestatic 256, 3) := by decide +kernel
theorem dX6_as_67 : decode cX6_as 67 = .ok (.istore 4, 2) := by decide +kernel
theorem dX6_as_69 : decode cX6_as 69 = .ok (.goto (-18), 3) := by decide +kernel
theorem dX6_as_72 : decode cX6_as 72 = .ok (.iload 4, 2) := by decide +kernel
theorem dX6_as_74 : decode cX6_as 74 = .ok (.iload_n 2, 1) := by decide +kernel
theorem dX6_as_75 : decode cX6_as 75 = .ok (.if_icmp .ne 7, 3) := by decide +kernel
theorem dX6_as_78 : decode cX6_as 78 = .ok (.iload_n 3, 1) := by decide +kernel
theorem dX6_as_79 : decode cX6_as 79 = .ok (.goto 8, 3) := by decide +kernel
theorem dX6_as_82 : decode cX6_as 82 = .ok (.aload_n 0, 1) := by decide +kernel
theorem dX6_as_83 : decode cX6_as 83 = .ok (.iconst 2, 1) := by decide +kernel
theorem dX6_as_84 : decode cX6_as 84 = .ok (.invokevirtual 94, 3) := by decide +kernel
theorem dX6_as_87 : decode cX6_as 87 = .ok (.ireturn, 1) := by decide +kernel
theorem dX6_sheet_0 : decode cX6_sheet 0 = .ok (.iload_n 1, 1) := by decide +kernel
theorem dX6_sheet_1 : decode cX6_sheet 1 = .ok (.invokestatic 180, 3) := by decide +kernel
theorem dX6_sheet_4 : decode cX6_sheet 4 = .ok (.ifCond .eq 25, 3) := by decide +kernel
theorem dX6_sheet_7 : decode cX6_sheet 7 = .ok (.iload_n 2, 1) := by decide +kernel
theorem dX6_sheet_8 : decode cX6_sheet 8 = .ok (.ifCond .eq 27, 3) := by decide +kernel
theorem dX6_sheet_11 : decode cX6_sheet 11 = .ok (.iload_n 2, 1) := by decide +kernel
theorem dX6_sheet_12 : decode cX6_sheet 12 = .ok (.bipush 8, 2) := by decide +kernel
theorem dX6_sheet_14 : decode cX6_sheet 14 = .ok (.if_icmp .eq 21, 3) := by decide +kernel
theorem dX6_sheet_17 : decode cX6_sheet 17 = .ok (.iload_n 2, 1) := by decide +kernel
theorem dX6_sheet_18 : decode cX6_sheet 18 = .ok (.bipush 16, 2) := by decide +kernel
theorem dX6_sheet_20 : decode cX6_sheet 20 = .ok (.if_icmp .eq 15, 3) := by decide +kernel
theorem dX6_sheet_23 : decode cX6_sheet 23 = .ok (.iload_n 2, 1) := by decide +kernel
theorem dX6_sheet_24 : decode cX6_sheet 24 = .ok (.bipush 32, 2) := by decide +kernel
theorem dX6_sheet_26 : decode cX6_sheet 26 = .ok (.if_icmp .eq 9, 3) := by decide +kernel
theorem dX6_sheet_29 : decode cX6_sheet 29 = .ok (.aload_n 0, 1) := by decide +kernel
theorem dX6_sheet_30 : decode cX6_sheet 30 = .ok (.iconst 0, 1) := by decide +kernel
theorem dX6_sheet_31 : decode cX6_sheet 31 = .ok (.invokevirtual 94, 3) := by decide +kernel
theorem dX6_sheet_34 : decode cX6_sheet 34 = .ok (.ireturn, 1) := by decide +kernel
theorem dX6_sheet_35 : decode cX6_sheet 35 = .ok (.iload_n 3, 1) := by decide +kernel
theorem dX6_sheet_36 : decode cX6_sheet 36 = .ok (.ifCond .ge 10, 3) := by decide +kernel
theorem dX6_sheet_39 : decode cX6_sheet 39 = .ok (.aload_n 0, 1) := by decide +kernel
theorem dX6_sheet_40 : decode cX6_sheet 40 = .ok (.bipush 6, 2) := by decide +kernel
theorem dX6_sheet_42 : decode cX6_sheet 42 = .ok (.invokevirtual 94, 3) := by decide +kernel
theorem dX6_sheet_45 : decode cX6_sheet 45 = .ok (.ireturn, 1) := by decide +kernel
theorem dX6_sheet_46 : decode cX6_sheet 46 = .ok (.iload_n 3, 1) := by decide +kernel
theorem dX6_sheet_47 : decode cX6_sheet 47 = .ok (.bipush 40, 2) := by decide +kernel
theorem dX6_sheet_49 : decode cX6_sheet 49 = .ok (.if_icmp .le 9, 3) := by decide +kernel
theorem dX6_sheet_52 : decode cX6_sheet 52 = .ok (.aload_n 0, 1) := by decide +kernel
theorem dX6_sheet_53 : decode cX6_sheet 53 = .ok (.iconst 0, 1) := by decide +kernel
theorem dX6_sheet_54 : decode cX6_sheet 54 = .ok (.invokevirtual 94, 3) := by decide +kernel
theorem dX6_sheet_57 : decode cX6_sheet 57 = .ok (.ireturn, 1) := by decide +kernel
theorem dX6_sheet_58 : decode cX6_sheet 58 = .ok (.aload_n 0, 1) := by decide +kernel
theorem dX6_sheet_59 : decode cX6_sheet 59 = .ok (.getfield 41, 3) := by decide +kernel
theorem dX6_sheet_62 : decode cX6_sheet 62 = .ok (.iload_n 1, 1) := by decide +kernel
theorem dX6_sheet_63 : decode cX6_sheet 63 = .ok (.iload_n 2, 1) := by decide +kernel
theorem dX6_sheet_64 : decode cX6_sheet 64 = .ok (.iastore, 1) := by decide +kernel
theorem dX6_sheet_65 : decode cX6_sheet 65 = .ok (.aload_n 0, 1) := by decide +kernel
theorem dX6_sheet_66 : decode cX6_sheet 66 = .ok (.getfield 44, 3) := by decide +kernel
theorem dX6_sheet_69 : decode cX6_sheet 69 = .ok (.iload_n 1, 1) := by decide +kernel
theorem dX6_sheet_70 : decode cX6_sheet 70 = .ok (.iload_n 2, 1) := by decide +kernel
theorem dX6_sheet_71 : decode cX6_sheet 71 = .ok (.ifCond .ne 7, 3) := by decide +kernel
theorem dX6_sheet_74 : decode cX6_sheet 74 = .ok (.iconst 0, 1) := by decide +kernel
theorem dX6_sheet_75 : decode cX6_sheet 75 = .ok (.goto 4, 3) := by decide +kernel
theorem dX6_sheet_78 : decode cX6_sheet 78 = .ok (.iload_n 3, 1) := by decide +kernel
theorem dX6_sheet_79 : decode cX6_sheet 79 = .ok (.iastore, 1) := by decide +kernel
theorem dX6_sheet_80 : decode cX6_sheet 80 = .ok (.iconst 0, 1) := by decide +kernel
theorem dX6_sheet_81 : decode cX6_sheet 81 = .ok (.istore 4, 2) := by decide +kernel
theorem dX6_sheet_83 : decode cX6_sheet 83 = .ok (.iload 4, 2) := by decide +kernel
theorem dX6_sheet_85 : decode cX6_sheet 85 = .ok (.bipush 40, 2) := by decide +kernel
theorem dX6_sheet_87 : decode cX6_sheet 87 = .ok (.if_icmp .ge 22, 3) := by decide +kernel
theorem dX6_sheet_90 : decode cX6_sheet 90 = .ok (.aload_n 0, 1) := by decide +kernel
theorem dX6_sheet_91 : decode cX6_sheet 91 = .ok (.getfield 47, 3) := by decide +kernel
theorem dX6_sheet_94 : decode cX6_sheet 94 = .ok (.bipush 40, 2) := by decide +kernel
theorem dX6_sheet_96 : decode cX6_sheet 96 = .ok (.iload_n 1, 1) := by decide +kernel
theorem dX6_sheet_97 : decode cX6_sheet 97 = .ok (.imul, 1) := by decide +kernel
theorem dX6_sheet_98 : decode cX6_sheet 98 = .ok (.iload 4, 2) := by decide +kernel
theorem dX6_sheet_100 : decode cX6_sheet 100 = .ok (.iadd, 1) := by decide +kernel
theorem dX6_sheet_101 : decode cX6_sheet 101 = .ok (.iconst 0, 1) := by decide +kernel
theorem dX6_sheet_102 : decode cX6_sheet 102 = .ok (.iastore, 1) := by decide +kernel
theorem dX6_sheet_103 : decode cX6_sheet 103 = .ok (.iinc 4 1, 3) := by decide +kernel
theorem dX6_sheet_106 : decode cX6_sheet 106 = .ok (.goto (-23), 3) := by decide +kernel
theorem dX6_sheet_109 : decode cX6_sheet 109 = .ok (.aload_n 0, 1) := by decide +kernel
theorem dX6_sheet_110 : decode cX6_sheet 110 = .ok (.getfield 44, 3) := by decide +kernel
theorem dX6_sheet_113 : decode cX6_sheet 113 = .ok (.iload_n 1, 1) := by decide +kernel
theorem dX6_sheet_114 : decode cX6_sheet 114 = .ok (.iaload, 1) := by decide +kernel
theorem dX6_sheet_115 : decode cX6_sheet 115 = .ok (.ireturn, 1) := by decide +kernel
theorem dX6_write_0 : decode cX6_write 0 = .ok (.aload_n 0, 1) := by decide +kernel
theorem dX6_write_1 : decode cX6_write 1 = .ok (.iload_n 1, 1) := by decide +kernel
theorem dX6_write_2 : decode cX6_write 2 = .ok (.invokevirtual 186, 3) := by decide +kernel
theorem dX6_write_5 : decode cX6_write 5 = .ok (.istore 4, 2) := by decide +kernel
theorem dX6_write_7 : decode cX6_write 7 = .ok (.iload 4, 2) := by decide +kernel
theorem dX6_write_9 : decode cX6_write 9 = .ok (.ifCond .ge 22, 3) := by decide +kernel
theorem dX6_write_12 : decode cX6_write 12 = .ok (.iload_n 2, 1) := by decide +kernel
theorem dX6_write_13 : decode cX6_write 13 = .ok (.iconst 0, 1) := by decide +kernel
theorem dX6_write_14 : decode cX6_write 14 = .ok (.aload_n 0, 1) := by decide +kernel
theorem dX6_write_15 : decode cX6_write 15 = .ok (.getfield 44, 3) := by decide +kernel
theorem dX6_write_18 : decode cX6_write 18 = .ok (.iload_n 1, 1) := by decide +kernel
theorem dX6_write_19 : decode cX6_write 19 = .ok (.iaload, 1) := by decide +kernel
theorem dX6_write_20 : decode cX6_write 20 = .ok (.iconst 1, 1) := by decide +kernel
theorem dX6_write_21 : decode cX6_write 21 = .ok (.isub, 1) := by decide +kernel
theorem dX6_write_22 : decode cX6_write 22 = .ok (.invokestatic 54, 3) := by decide +kernel
theorem dX6_write_25 : decode cX6_write 25 = .ok (.ifCond .ne 6, 3) := by decide +kernel
theorem dX6_write_28 : decode cX6_write 28 = .ok (.iconst 0, 1) := by decide +kernel
theorem dX6_write_29 : decode cX6_write 29 = .ok (.istore 4, 2) := by decide +kernel
theorem dX6_write_31 : decode cX6_write 31 = .ok (.iload 4, 2) := by decide +kernel
theorem dX6_write_33 : decode cX6_write 33 = .ok (.ifCond .lt 10, 3) := by decide +kernel
theorem dX6_write_36 : decode cX6_write 36 = .ok (.aload_n 0, 1) := by decide +kernel
theorem dX6_write_37 : decode cX6_write 37 = .ok (.iload 4, 2) := by decide +kernel
theorem dX6_write_39 : decode cX6_write 39 = .ok (.invokevirtual 94, 3) := by decide +kernel
theorem dX6_write_42 : decode cX6_write 42 = .ok (.ireturn, 1) := by decide +kernel
theorem dX6_write_43 : decode cX6_write 43 = .ok (.aload_n 0, 1) := by decide +kernel
theorem dX6_write_44 : decode cX6_write 44 = .ok (.getfield 47, 3) := by decide +kernel
theorem dX6_write_47 : decode cX6_write 47 = .ok (.bipush 40, 2) := by decide +kernel
theorem dX6_write_49 : decode cX6_write 49 = .ok (.iload_n 1, 1) := by decide +kernel
theorem dX6_write_50 : decode cX6_write 50 = .ok (.imul, 1) := by decide +kernel
theorem dX6_write_51 : decode cX6_write 51 = .ok (.iload_n 2, 1) := by decide +kernel
theorem dX6_write_52 : decode cX6_write 52 = .ok (.iadd, 1) := by decide +kernel
theorem dX6_write_53 : decode cX6_write 53 = .ok (.aload_n 0, 1) := by decide +kernel
theorem dX6_write_54 : decode cX6_write 54 = .ok (.getfield 41, 3) := by decide +kernel
theorem dX6_write_57 : decode cX6_write 57 = .ok (.iload_n 1, 1) := by decide +kernel
theorem dX6_write_58 : decode cX6_write 58 = .ok (.iaload, 1) := by decide +kernel
theorem dX6_write_59 : decode cX6_write 59 = .ok (.bipush 8, 2) := by decide +kernel
theorem dX6_write_61 : decode cX6_write 61 = .ok (.if_icmp .ne 8, 3) := by decide +kernel
theorem dX6_write_64 : decode cX6_write 64 = .ok (.iload_n 3, 1) := by decide +kernel
theorem dX6_write_65 : decode cX6_write 65 = .ok (.i2b, 1) := by decide +kernel
theorem dX6_write_66 : decode cX6_write 66 = .ok (.goto 20, 3) := by decide +kernel
theorem dX6_write_69 : decode cX6_write 69 = .ok (.aload_n 0, 1) := by decide +kernel
theorem dX6_write_70 : decode cX6_write 70 = .ok (.getfield 41, 3) := by decide +kernel
theorem dX6_write_73 : decode cX6_write 73 = .ok (.iload_n 1, 1) := by decide +kernel
theorem dX6_write_74 : decode cX6_write 74 = .ok (.iaload, 1) := by decide +kernel
theorem dX6_write_75 : decode cX6_write 75 = .ok (.bipush 16, 2) := by decide +kernel
theorem dX6_write_77 : decode cX6_write 77 = .ok (.if_icmp .ne 8, 3) := by decide +kernel
theorem dX6_write_80 : decode cX6_write 80 = .ok (.iload_n 3, 1) := by decide +kernel
theorem dX6_write_81 : decode cX6_write 81 = .ok (.i2s, 1) := by decide +kernel
theorem dX6_write_82 : decode cX6_write 82 = .ok (.goto 4, 3) := by decide +kernel
theorem dX6_write_85 : decode cX6_write 85 = .ok (.iload_n 3, 1) := by decide +kernel
theorem dX6_write_86 : decode cX6_write 86 = .ok (.iastore, 1) := by decide +kernel
theorem dX6_write_87 : decode cX6_write 87 = .ok (.iconst 1, 1) := by decide +kernel
theorem dX6_write_88 : decode cX6_write 88 = .ok (.ireturn, 1) := by decide +kernel
theorem dX6_copy_0 : decode cX6_copy 0 = .ok (.iload_n 1, 1) := by decide +kernel
theorem dX6_copy_1 : decode cX6_copy 1 = .ok (.invokestatic 180, 3) := by decide +kernel
theorem dX6_copy_4 : decode cX6_copy 4 = .ok (.ifCond .eq 10, 3) := by decide +kernel
theorem dX6_copy_7 : decode cX6_copy 7 = .ok (.iload_n 3, 1) := by decide +kernel
theorem dX6_copy_8 : decode cX6_copy 8 = .ok (.invokestatic 180, 3) := by decide +kernel
theorem dX6_copy_11 : decode cX6_copy 11 = .ok (.ifCond .ne 9, 3) := by decide +kernel
theorem dX6_copy_14 : decode cX6_copy 14 = .ok (.aload_n 0, 1) := by decide +kernel
theorem dX6_copy_15 : decode cX6_copy 15 = .ok (.iconst 0, 1) := by decide +kernel
theorem dX6_copy_16 : decode cX6_copy 16 = .ok (.invokevirtual 94, 3) := by decide +kernel
theorem dX6_copy_19 : decode cX6_copy 19 = .ok (.ireturn, 1) := by decide +kernel
theorem dX6_copy_20 : decode cX6_copy 20 = .ok (.aload_n 0, 1) := by decide +kernel
theorem dX6_copy_21 : decode cX6_copy 21 = .ok (.getfield 41, 3) := by decide +kernel
theorem dX6_copy_24 : decode cX6_copy 24 = .ok (.iload_n 1, 1) := by decide +kernel
theorem dX6_copy_25 : decode cX6_copy 25 = .ok (.iaload, 1) := by decide +kernel
theorem dX6_copy_26 : decode cX6_copy 26 = .ok (.ifCond .eq 12, 3) := by decide +kernel
theorem dX6_copy_29 : decode cX6_copy 29 = .ok (.aload_n 0, 1) := by decide +kernel
theorem dX6_copy_30 : decode cX6_copy 30 = .ok (.getfield 41, 3) := by decide +kernel
theorem dX6_copy_33 : decode cX6_copy 33 = .ok (.iload_n 3, 1) := by decide +kernel
theorem dX6_copy_34 : decode cX6_copy 34 = .ok (.iaload, 1) := by decide +kernel
theorem dX6_copy_35 : decode cX6_copy 35 = .ok (.ifCond .ne 9, 3) := by decide +kernel
theorem dX6_copy_38 : decode cX6_copy 38 = .ok (.aload_n 0, 1) := by decide +kernel
theorem dX6_copy_39 : decode cX6_copy 39 = .ok (.iconst 5, 1) := by decide +kernel
theorem dX6_copy_40 : decode cX6_copy 40 = .ok (.invokevirtual 94, 3) := by decide +kernel
theorem dX6_copy_43 : decode cX6_copy 43 = .ok (.ireturn, 1) := by decide +kernel
theorem dX6_copy_44 : decode cX6_copy 44 = .ok (.aload_n 0, 1) := by decide +kernel
theorem dX6_copy_45 : decode cX6_copy 45 = .ok (.getfield 41, 3) := by decide +kernel
theorem dX6_copy_48 : decode cX6_copy 48 = .ok (.iload_n 1, 1) := by decide +kernel
theorem dX6_copy_49 : decode cX6_copy 49 = .ok (.iaload, 1) := by decide +kernel
theorem dX6_copy_50 : decode cX6_copy 50 = .ok (.aload_n 0, 1) := by decide +kernel
theorem dX6_copy_51 : decode cX6_copy 51 = .ok (.getfield 41, 3) := by decide +kernel
theorem dX6_copy_54 : decode cX6_copy 54 = .ok (.iload_n 3, 1) := by decide +kernel
theorem dX6_copy_55 : decode cX6_copy 55 = .ok (.iaload, 1) := by decide +kernel
theorem dX6_copy_56 : decode cX6_copy 56 = .ok (.if_icmp .eq 9, 3) := by decide +kernel
theorem dX6_copy_59 : decode cX6_copy 59 = .ok (.aload_n 0, 1) := by decide +kernel
theorem dX6_copy_60 : decode cX6_copy 60 = .ok (.iconst 2, 1) := by decide +kernel
theorem dX6_copy_61 : decode cX6_copy 61 = .ok (.invokevirtual 94, 3) := by decide +kernel
theorem dX6_copy_64 : decode cX6_copy 64 = .ok (.ireturn, 1) := by decide +kernel
theorem dX6_copy_65 : decode cX6_copy 65 = .ok (.iload 5, 2) := by decide +kernel
theorem dX6_copy_67 : decode cX6_copy 67 = .ok (.ifCond .lt 39, 3) := by decide +kernel
theorem dX6_copy_70 : decode cX6_copy 70 = .ok (.iload_n 2, 1) := by decide +kernel
theorem dX6_copy_71 : decode cX6_copy 71 = .ok (.ifCond .lt 35, 3) := by decide +kernel
theorem dX6_copy_74 : decode cX6_copy 74 = .ok (.iload 4, 2) := by decide +kernel
theorem dX6_copy_76 : decode cX6_copy 76 = .ok (.ifCond .lt 30, 3) := by decide +kernel
theorem dX6_copy_79 : decode cX6_copy 79 = .ok (.iload_n 2, 1) := by decide +kernel
theorem dX6_copy_80 : decode cX6_copy 80 = .ok (.aload_n 0, 1) := by decide +kernel
theorem dX6_copy_81 : decode cX6_copy 81 = .ok (.getfield 44, 3) := by decide +kernel
theorem dX6_copy_84 : decode cX6_copy 84 = .ok (.iload_n 1, 1) := by decide +kernel
theorem dX6_copy_85 : decode cX6_copy 85 = .ok (.iaload, 1) := by decide +kernel
theorem dX6_copy_86 : decode cX6_copy 86 = .ok (.iload 5, 2) := by decide +kernel
theorem dX6_copy_88 : decode cX6_copy 88 = .ok (.isub, 1) := by decide +kernel
theorem dX6_copy_89 : decode cX6_copy 89 = .ok (.if_icmp .gt 17, 3) := by decide +kernel
theorem dX6_copy_92 : decode cX6_copy 92 = .ok (.iload 4, 2) := by decide +kernel
theorem dX6_copy_94 : decode cX6_copy 94 = .ok (.aload_n 0, 1) := by decide +kernel
theorem dX6_copy_95 : decode cX6_copy 95 = .ok (.getfield 44, 3) := by decide +kernel
theorem dX6_copy_98 : decode cX6_copy 98 = .ok (.iload_n 3, 1) := by decide +kernel
theorem dX6_copy_99 : decode cX6_copy 99 = .ok (.iaload, 1) := by decide +kernel
theorem dX6_copy_100 : decode cX6_copy 100 = .ok (.iload 5, 2) := by decide +kernel
theorem dX6_copy_102 : decode cX6_copy 102 = .ok (.isub, 1) := by decide +kernel
theorem dX6_copy_103 : decode cX6_copy 103 = .ok (.if_icmp .le 9, 3) := by decide +kernel
theorem dX6_copy_106 : decode cX6_copy 106 = .ok (.aload_n 0, 1) := by decide +kernel
theorem dX6_copy_107 : decode cX6_copy 107 = .ok (.iconst 0, 1) := by decide +kernel
theorem dX6_copy_108 : decode cX6_copy 108 = .ok (.invokevirtual 94, 3) := by decide +kernel
theorem dX6_copy_111 : decode cX6_copy 111 = .ok (.ireturn, 1) := by decide +kernel
theorem dX6_copy_112 : decode cX6_copy 112 = .ok (.iconst 0, 1) := by decide +kernel
theorem dX6_copy_113 : decode cX6_copy 113 = .ok (.istore 6, 2) := by decide +kernel
theorem dX6_copy_115 : decode cX6_copy 115 = .ok (.iload 6, 2) := by decide +kernel
theorem dX6_copy_117 : decode cX6_copy 117 = .ok (.iload 5, 2) := by decide +kernel
theorem dX6_copy_119 : decode cX6_copy 119 = .ok (.if_icmp .ge 30, 3) := by decide +kernel
theorem dX6_copy_122 : decode cX6_copy 122 = .ok (.aload_n 0, 1) := by decide +kernel
theorem dX6_copy_123 : decode cX6_copy 123 = .ok (.getfield 50, 3) := by decide +kernel
theorem dX6_copy_126 : decode cX6_copy 126 = .ok (.iload 6, 2) := by decide +kernel
theorem dX6_copy_128 : decode cX6_copy 128 = .ok (.aload_n 0, 1) := by decide +kernel
theorem dX6_copy_129 : decode cX6_copy 129 = .ok (.getfield 47, 3) := by decide +kernel
theorem dX6_copy_132 : decode cX6_copy 132 = .ok (.bipush 40, 2) := by decide +kernel
theorem dX6_copy_134 : decode cX6_copy 134 = .ok (.iload_n 1, 1) := by decide +kernel
theorem dX6_copy_135 : decode cX6_copy 135 = .ok (.imul, 1) := by decide +kernel
theorem dX6_copy_136 : decode cX6_copy 136 = .ok (.iload_n 2, 1) := by decide +kernel
theorem dX6_copy_137 : decode cX6_copy 137 = .ok (.iadd, 1) := by decide +kernel
theorem dX6_copy_138 : decode cX6_copy 138 = .ok (.iload 6, 2) := by decide +kernel
theorem dX6_copy_140 : decode cX6_copy 140 = .ok (.iadd, 1) := by decide +kernel
theorem dX6_copy_141 : decode cX6_copy 141 = .ok (.iaload, 1) := by decide +kernel
theorem dX6_copy_142 : decode cX6_copy 142 = .ok (.iastore, 1) := by decide +kernel
theorem dX6_copy_143 : decode cX6_copy 143 = .ok (.iinc 6 1, 3) := by decide +kernel
theorem dX6_copy_146 : decode cX6_copy 146 = .ok (.goto (-31), 3) := by decide +kernel
theorem dX6_copy_149 : decode cX6_copy 149 = .ok (.iconst 0, 1) := by decide +kernel
theorem dX6_copy_150 : decode cX6_copy 150 = .ok (.istore 6, 2) := by decide +kernel
theorem dX6_copy_152 : decode cX6_copy 152 = .ok (.iload 6, 2) := by decide +kernel
theorem dX6_copy_154 : decode cX6_copy 154 = .ok (.iload 5, 2) := by decide +kernel
theorem dX6_copy_156 : decode cX6_copy 156 = .ok (.if_icmp .ge 31, 3) := by decide +kernel
theorem dX6_copy_159 : decode cX6_copy 159 = .ok (.aload_n 0, 1) := by decide +kernel
theorem dX6_copy_160 : decode cX6_copy 160 = .ok (.getfield 47, 3) := by decide +kernel
theorem dX6_copy_163 : decode cX6_copy 163 = .ok (.bipush 40, 2) := by decide +kernel
theorem dX6_copy_165 : decode cX6_copy 165 = .ok (.iload_n 3, 1) := by decide +kernel
theorem dX6_copy_166 : decode cX6_copy 166 = .ok (.imul, 1) := by decide +kernel
theorem dX6_copy_167 : decode cX6_copy 167 = .ok (.iload 4, 2) := by decide +kernel
theorem dX6_copy_169 : decode cX6_copy 169 = .ok (.iadd, 1) := by decide +kernel
theorem dX6_copy_170 : decode cX6_copy 170 = .ok (.iload 6, 2) := by decide +kernel
theorem dX6_copy_172 : decode cX6_copy 172 = .ok (.iadd, 1) := by decide +kernel
theorem dX6_copy_173 : decode cX6_copy 173 = .ok (.aload_n 0, 1) := by decide +kernel
theorem dX6_copy_174 : decode cX6_copy 174 = .ok (.getfield 50, 3) := by decide +kernel
theorem dX6_copy_177 : decode cX6_copy 177 = .ok (.iload 6, 2) := by decide +kernel
theorem dX6_copy_179 : decode cX6_copy 179 = .ok (.iaload, 1) := by decide +kernel
theorem dX6_copy_180 : decode cX6_copy 180 = .ok (.iastore, 1) := by decide +kernel
theorem dX6_copy_181 : decode cX6_copy 181 = .ok (.iinc 6 1, 3) := by decide +kernel
theorem dX6_copy_184 : decode cX6_copy 184 = .ok (.goto (-32), 3) := by decide +kernel
theorem dX6_copy_187 : decode cX6_copy 187 = .ok (.iload 5, 2) := by decide +kernel
theorem dX6_copy_189 : decode cX6_copy 189 = .ok (.ireturn, 1) := by decide +kernel
theorem dX6_load_0 : decode cX6_load 0 = .ok (.aload_n 0, 1) := by decide +kernel
theorem dX6_load_1 : decode cX6_load 1 = .ok (.iload_n 1, 1) := by decide +kernel
theorem dX6_load_2 : decode cX6_load 2 = .ok (.invokevirtual 186, 3) := by decide +kernel
theorem dX6_load_5 : decode cX6_load 5 = .ok (.istore_n 2, 1) := by decide +kernel
theorem dX6_load_6 : decode cX6_load 6 = .ok (.iload_n 2, 1) := by decide +kernel
theorem dX6_load_7 : decode cX6_load 7 = .ok (.ifCond .lt 9, 3) := by decide +kernel
theorem dX6_load_10 : decode cX6_load 10 = .ok (.aload_n 0, 1) := by decide +kernel
theorem dX6_load_11 : decode cX6_load 11 = .ok (.iload_n 2, 1) := by decide +kernel
theorem dX6_load_12 : decode cX6_load 12 = .ok (.invokevirtual 94, 3) := by decide +kernel
theorem dX6_load_15 : decode cX6_load 15 = .ok (.ireturn, 1) := by decide +kernel
theorem dX6_load_16 : decode cX6_load 16 = .ok (.iconst 0, 1) := by decide +kernel
theorem dX6_load_17 : decode cX6_load 17 = .ok (.istore_n 3, 1) := by decide +kernel
theorem dX6_load_18 : decode cX6_load 18 = .ok (.iload_n 3, 1) := by decide +kernel
theorem dX6_load_19 : decode cX6_load 19 = .ok (.aload_n 0, 1) := by decide +kernel
theorem dX6_load_20 : decode cX6_load 20 = .ok (.getfield 44, 3) := by decide +kernel
theorem dX6_load_23 : decode cX6_load 23 = .ok (.iload_n 1, 1) := by decide +kernel
theorem dX6_load_24 : decode cX6_load 24 = .ok (.iaload, 1) := by decide +kernel
theorem dX6_load_25 : decode cX6_load 25 = .ok (.if_icmp .ge 44, 3) := by decide +kernel
theorem dX6_load_28 : decode cX6_load 28 = .ok (.aload_n 0, 1) := by decide +kernel
theorem dX6_load_29 : decode cX6_load 29 = .ok (.iload_n 3, 1) := by decide +kernel
theorem dX6_load_30 : decode cX6_load 30 = .ok (.invokevirtual 101, 3) := by decide +kernel
theorem dX6_load_33 : decode cX6_load 33 = .ok (.ifCond .eq 36, 3) := by decide +kernel
theorem dX6_load_36 : decode cX6_load 36 = .ok (.aload_n 0, 1) := by decide +kernel
theorem dX6_load_37 : decode cX6_load 37 = .ok (.iload_n 1, 1) := by decide +kernel
theorem dX6_load_38 : decode cX6_load 38 = .ok (.iload_n 3, 1) := by decide +kernel
theorem dX6_load_39 : decode cX6_load 39 = .ok (.invokevirtual 183, 3) := by decide +kernel
theorem dX6_load_42 : decode cX6_load 42 = .ok (.iconst 0, 1) := by decide +kernel
theorem dX6_load_43 : decode cX6_load 43 = .ok (.bipush 99, 2) := by decide +kernel
theorem dX6_load_45 : decode cX6_load 45 = .ok (.invokestatic 54, 3) := by decide +kernel
theorem dX6_load_48 : decode cX6_load 48 = .ok (.ifCond .eq 21, 3) := by decide +kernel
theorem dX6_load_51 : decode cX6_load 51 = .ok (.aload_n 0, 1) := by decide +kernel
theorem dX6_load_52 : decode cX6_load 52 = .ok (.iload_n 3, 1) := by decide +kernel
theorem dX6_load_53 : decode cX6_load 53 = .ok (.iconst 2, 1) := by decide +kernel
theorem dX6_load_54 : decode cX6_load 54 = .ok (.aload_n 0, 1) := by decide +kernel
theorem dX6_load_55 : decode cX6_load 55 = .ok (.iload_n 1, 1) := by decide +kernel
theorem dX6_load_56 : decode cX6_load 56 = .ok (.iload_n 3, 1) := by decide +kernel
theorem dX6_load_57 : decode cX6_load 57 = .ok (.invokevirtual 183, 3) := by decide +kernel
theorem dX6_load_60 : decode cX6_load 60 = .ok (.invokevirtual 80, 3) := by decide +kernel
theorem dX6_load_63 : decode cX6_load 63 = .ok (.iinc 3 1, 3) := by decide +kernel
theorem dX6_load_66 : decode cX6_load 66 = .ok (.goto (-48), 3) := by decide +kernel
theorem dX6_load_69 : decode cX6_load 69 = .ok (.iload_n 3, 1) := by decide +kernel
theorem dX6_load_70 : decode cX6_load 70 = .ok (.ireturn, 1) := by decide +kernel
theorem dX6_judge_0 : decode cX6_judge 0 = .ok (.aload_n 0, 1) := by decide +kernel
theorem dX6_judge_1 : decode cX6_judge 1 = .ok (.iload_n 1, 1) := by decide +kernel
theorem dX6_judge_2 : decode cX6_judge 2 = .ok (.invokevirtual 186, 3) := by decide +kernel
theorem dX6_judge_5 : decode cX6_judge 5 = .ok (.istore_n 2, 1) := by decide +kernel
theorem dX6_judge_6 : decode cX6_judge 6 = .ok (.iload_n 2, 1) := by decide +kernel
theorem dX6_judge_7 : decode cX6_judge 7 = .ok (.ifCond .lt 9, 3) := by decide +kernel
theorem dX6_judge_10 : decode cX6_judge 10 = .ok (.aload_n 0, 1) := by decide +kernel
theorem dX6_judge_11 : decode cX6_judge 11 = .ok (.iload_n 2, 1) := by decide +kernel
theorem dX6_judge_12 : decode cX6_judge 12 = .ok (.invokevirtual 94, 3) := by decide +kernel
theorem dX6_judge_15 : decode cX6_judge 15 = .ok (.ireturn, 1) := by decide +kernel
theorem dX6_judge_16 : decode cX6_judge 16 = .ok (.iconst 0, 1) := by decide +kernel
theorem dX6_judge_17 : decode cX6_judge 17 = .ok (.istore_n 3, 1) := by decide +kernel
theorem dX6_judge_18 : decode cX6_judge 18 = .ok (.iconst 0, 1) := by decide +kernel
theorem dX6_judge_19 : decode cX6_judge 19 = .ok (.istore 4, 2) := by decide +kernel
theorem dX6_judge_21 : decode cX6_judge 21 = .ok (.aload_n 0, 1) := by decide +kernel
theorem dX6_judge_22 : decode cX6_judge 22 = .ok (.iconst 0, 1) := by decide +kernel
theorem dX6_judge_23 : decode cX6_judge 23 = .ok (.invokevirtual 130, 3) := by decide +kernel
theorem dX6_judge_26 : decode cX6_judge 26 = .ok (.istore 5, 2) := by decide +kernel
theorem dX6_judge_28 : decode cX6_judge 28 = .ok (.iconst 0, 1) := by decide +kernel
theorem dX6_judge_29 : decode cX6_judge 29 = .ok (.istore 6, 2) := by decide +kernel
theorem dX6_judge_31 : decode cX6_judge 31 = .ok (.iload 6, 2) := by decide +kernel
theorem dX6_judge_33 : decode cX6_judge 33 = .ok (.aload_n 0, 1) := by decide +kernel
theorem dX6_judge_34 : decode cX6_judge 34 = .ok (.getfield 44, 3) := by decide +kernel
theorem dX6_judge_37 : decode cX6_judge 37 = .ok (.iload_n 1, 1) := by decide +kernel
theorem dX6_judge_38 : decode cX6_judge 38 = .ok (.iaload, 1) := by decide +kernel
theorem dX6_judge_39 : decode cX6_judge 39 = .ok (.if_icmp .ge 113, 3) := by decide +kernel
theorem dX6_judge_42 : decode cX6_judge 42 = .ok (.aload_n 0, 1) := by decide +kernel
theorem dX6_judge_43 : decode cX6_judge 43 = .ok (.iload_n 1, 1) := by decide +kernel
theorem dX6_judge_44 : decode cX6_judge 44 = .ok (.iload 6, 2) := by decide +kernel
theorem dX6_judge_46 : decode cX6_judge 46 = .ok (.invokevirtual 183, 3) := by decide +kernel
theorem dX6_judge_49 : decode cX6_judge 49 = .ok (.istore 7, 2) := by decide +kernel
theorem dX6_judge_51 : decode cX6_judge 51 = .ok (.aload_n 0, 1) := by decide +kernel
theorem dX6_judge_52 : decode cX6_judge 52 = .ok (.iload 7, 2) := by decide +kernel
theorem dX6_judge_54 : decode cX6_judge 54 = .ok (.invokevirtual 101, 3) := by decide +kernel
theorem dX6_judge_57 : decode cX6_judge 57 = .ok (.ifCond .eq 16, 3) := by decide +kernel
theorem dX6_judge_60 : decode cX6_judge 60 = .ok (.iload_n 3, 1) := by decide +kernel
theorem dX6_judge_61 : decode cX6_judge 61 = .ok (.iload 7, 2) := by decide +kernel
theorem dX6_judge_63 : decode cX6_judge 63 = .ok (.invokestatic 70, 3) := by decide +kernel
theorem dX6_judge_66 : decode cX6_judge 66 = .ok (.ifCond .ne 7, 3) := by decide +kernel
theorem dX6_judge_69 : decode cX6_judge 69 = .ok (.iconst 1, 1) := by decide +kernel
theorem dX6_judge_70 : decode cX6_judge 70 = .ok (.goto 4, 3) := by decide +kernel
theorem dX6_judge_73 : decode cX6_judge 73 = .ok (.iconst 0, 1) := by decide +kernel
theorem dX6_judge_74 : decode cX6_judge 74 = .ok (.istore 8, 2) := by decide +kernel
theorem dX6_judge_76 : decode cX6_judge 76 = .ok (.iload 4, 2) := by decide +kernel
theorem dX6_judge_78 : decode cX6_judge 78 = .ok (.iload 8, 2) := by decide +kernel
theorem dX6_judge_80 : decode cX6_judge 80 = .ok (.ifCond .eq 26, 3) := by decide +kernel
theorem dX6_judge_83 : decode cX6_judge 83 = .ok (.iload 5, 2) := by decide +kernel
theorem dX6_judge_85 : decode cX6_judge 85 = .ok (.aload_n 0, 1) := by decide +kernel
theorem dX6_judge_86 : decode cX6_judge 86 = .ok (.iload 7, 2) := by decide +kernel
theorem dX6_judge_88 : decode cX6_judge 88 = .ok (.iconst 1, 1) := by decide +kernel
theorem dX6_judge_89 : decode cX6_judge 89 = .ok (.invokevirtual 58, 3) := by decide +kernel
theorem dX6_judge_92 : decode cX6_judge 92 = .ok (.invokestatic 110, 3) := by decide +kernel
theorem dX6_judge_95 : decode cX6_judge 95 = .ok (.aload_n 0, 1) := by decide +kernel
theorem dX6_judge_96 : decode cX6_judge 96 = .ok (.getfield 9, 3) := by decide +kernel
theorem dX6_judge_99 : decode cX6_judge 99 = .ok (.bipush 6, 2) := by decide +kernel
theorem dX6_judge_101 : decode cX6_judge 101 = .ok (.iaload, 1) := by decide +kernel
theorem dX6_judge_102 : decode cX6_judge 102 = .ok (.iadd, 1) := by decide +kernel
theorem dX6_judge_103 : decode cX6_judge 103 = .ok (.goto 4, 3) := by decide +kernel
theorem dX6_judge_106 : decode cX6_judge 106 = .ok (.iconst 0, 1) := by decide +kernel
theorem dX6_judge_107 : decode cX6_judge 107 = .ok (.iadd, 1) := by decide +kernel
theorem dX6_judge_108 : decode cX6_judge 108 = .ok (.istore 4, 2) := by decide +kernel
theorem dX6_judge_110 : decode cX6_judge 110 = .ok (.iload 8, 2) := by decide +kernel
theorem dX6_judge_112 : decode cX6_judge 112 = .ok (.ifCond .eq 13, 3) := by decide +kernel
theorem dX6_judge_115 : decode cX6_judge 115 = .ok (.iload 4, 2) := by decide +kernel
theorem dX6_judge_117 : decode cX6_judge 117 = .ok (.aload_n 0, 1) := by decide +kernel
theorem dX6_judge_118 : decode cX6_judge 118 = .ok (.iconst 0, 1) := by decide +kernel
theorem dX6_judge_119 : decode cX6_judge 119 = .ok (.invokevirtual 151, 3) := by decide +kernel
theorem dX6_judge_122 : decode cX6_judge 122 = .ok (.if_icmp .le 8, 3) := by decide +kernel
theorem dX6_judge_125 : decode cX6_judge 125 = .ok (.iconst 1, 1) := by decide +kernel
theorem dX6_judge_126 : decode cX6_judge 126 = .ok (.iload 6, 2) := by decide +kernel
theorem dX6_judge_128 : decode cX6_judge 128 = .ok (.iadd, 1) := by decide +kernel
theorem dX6_judge_129 : decode cX6_judge 129 = .ok (.ireturn, 1) := by decide +kernel
theorem dX6_judge_130 : decode cX6_judge 130 = .ok (.iload_n 3, 1) := by decide +kernel
theorem dX6_judge_131 : decode cX6_judge 131 = .ok (.iconst 1, 1) := by decide +kernel
theorem dX6_judge_132 : decode cX6_judge 132 = .ok (.iload 7, 2) := by decide +kernel
theorem dX6_judge_134 : decode cX6_judge 134 = .ok (.ishl, 1) := by decide +kernel
theorem dX6_judge_135 : decode cX6_judge 135 = .ok (.ior, 1) := by decide +kernel
theorem dX6_judge_136 : decode cX6_judge 136 = .ok (.istore_n 3, 1) := by decide +kernel
theorem dX6_judge_137 : decode cX6_judge 137 = .ok (.aload_n 0, 1) := by decide +kernel
theorem dX6_judge_138 : decode cX6_judge 138 = .ok (.iload 7, 2) := by decide +kernel
theorem dX6_judge_140 : decode cX6_judge 140 = .ok (.iconst 1, 1) := by decide +kernel
theorem dX6_judge_141 : decode cX6_judge 141 = .ok (.invokevirtual 58, 3) := by decide +kernel
theorem dX6_judge_144 : decode cX6_judge 144 = .ok (.istore 5, 2) := by decide +kernel
theorem dX6_judge_146 : decode cX6_judge 146 = .ok (.iinc 6 1, 3) := by decide +kernel
theorem dX6_judge_149 : decode cX6_judge 149 = .ok (.goto (-118), 3) := by decide +kernel
theorem dX6_judge_152 : decode cX6_judge 152 = .ok (.iconst 0, 1) := by decide +kernel
theorem dX6_judge_153 : decode cX6_judge 153 = .ok (.ireturn, 1) := by decide +kernel
theorem dX6_image_0 : decode cX6_image 0 = .ok (.iconst 0, 1) := by decide +kernel
theorem dX6_image_1 : decode cX6_image 1 = .ok (.istore_n 1, 1) := by decide +kernel
theorem dX6_image_2 : decode cX6_image 2 = .ok (.iload_n 1, 1) := by decide +kernel
theorem dX6_image_3 : decode cX6_image 3 = .ok (.bipush 72, 2) := by decide +kernel
theorem dX6_image_5 : decode cX6_image 5 = .ok (.if_icmp .ge 21, 3) := by decide +kernel
theorem dX6_image_8 : decode cX6_image 8 = .ok (.aload_n 0, 1) := by decide +kernel
theorem dX6_image_9 : decode cX6_image 9 = .ok (.getfield 13, 3) := by decide +kernel
theorem dX6_image_12 : decode cX6_image 12 = .ok (.iload_n 1, 1) := by decide +kernel
theorem dX6_image_13 : decode cX6_image 13 = .ok (.aload_n 0, 1) := by decide +kernel
theorem dX6_image_14 : decode cX6_image 14 = .ok (.getfield 9, 3) := by decide +kernel
theorem dX6_image_17 : decode cX6_image 17 = .ok (.iload_n 1, 1) := by decide +kernel
theorem dX6_image_18 : decode cX6_image 18 = .ok (.iaload, 1) := by decide +kernel
theorem dX6_image_19 : decode cX6_image 19 = .ok (.iastore, 1) := by decide +kernel
theorem dX6_image_20 : decode cX6_image 20 = .ok (.iinc 1 1, 3) := by decide +kernel
theorem dX6_image_23 : decode cX6_image 23 = .ok (.goto (-21), 3) := by decide +kernel
theorem dX6_image_26 : decode cX6_image 26 = .ok (.aload_n 0, 1) := by decide +kernel
theorem dX6_image_27 : decode cX6_image 27 = .ok (.iconst 1, 1) := by decide +kernel
theorem dX6_image_28 : decode cX6_image 28 = .ok (.putfield 259, 3) := by decide +kernel
theorem dX6_image_31 : decode cX6_image 31 = .ok (.iconst 1, 1) := by decide +kernel
theorem dX6_image_32 : decode cX6_image 32 = .ok (.ireturn, 1) := by decide +kernel
theorem dX6_undo_0 : decode cX6_undo 0 = .ok (.aload_n 0, 1) := by decide +kernel
theorem dX6_undo_1 : decode cX6_undo 1 = .ok (.getfield 259, 3) := by decide +kernel
theorem dX6_undo_4 : decode cX6_undo 4 = .ok (.ifCond .ne 9, 3) := by decide +kernel
theorem dX6_undo_7 : decode cX6_undo 7 = .ok (.aload_n 0, 1) := by decide +kernel
theorem dX6_undo_8 : decode cX6_undo 8 = .ok (.iconst 3, 1) := by decide +kernel
theorem dX6_undo_9 : decode cX6_undo 9 = .ok (.invokevirtual 94, 3) := by decide +kernel
theorem dX6_undo_12 : decode cX6_undo 12 = .ok (.ireturn, 1) := by decide +kernel
theorem dX6_undo_13 : decode cX6_undo 13 = .ok (.iconst 0, 1) := by decide +kernel
theorem dX6_undo_14 : decode cX6_undo 14 = .ok (.istore_n 1, 1) := by decide +kernel
theorem dX6_undo_15 : decode cX6_undo 15 = .ok (.iload_n 1, 1) := by decide +kernel
theorem dX6_undo_16 : decode cX6_undo 16 = .ok (.bipush 72, 2) := by decide +kernel
theorem dX6_undo_18 : decode cX6_undo 18 = .ok (.if_icmp .ge 21, 3) := by decide +kernel
theorem dX6_undo_21 : decode cX6_undo 21 = .ok (.aload_n 0, 1) := by decide +kernel
theorem dX6_undo_22 : decode cX6_undo 22 = .ok (.getfield 9, 3) := by decide +kernel
theorem dX6_undo_25 : decode cX6_undo 25 = .ok (.iload_n 1, 1) := by decide +kernel
theorem dX6_undo_26 : decode cX6_undo 26 = .ok (.aload_n 0, 1) := by decide +kernel
theorem dX6_undo_27 : decode cX6_undo 27 = .ok (.getfield 13, 3) := by decide +kernel
theorem dX6_undo_30 : decode cX6_undo 30 = .ok (.iload_n 1, 1) := by decide +kernel
theorem dX6_undo_31 : decode cX6_undo 31 = .ok (.iaload, 1) := by decide +kernel
theorem dX6_undo_32 : decode cX6_undo 32 = .ok (.iastore, 1) := by decide +kernel
theorem dX6_undo_33 : decode cX6_undo 33 = .ok (.iinc 1 1, 3) := by decide +kernel
theorem dX6_undo_36 : decode cX6_undo 36 = .ok (.goto (-21), 3) := by decide +kernel
theorem dX6_undo_39 : decode cX6_undo 39 = .ok (.aload_n 0, 1) := by decide +kernel
theorem dX6_undo_40 : decode cX6_undo 40 = .ok (.getfield 9, 3) := by decide +kernel
theorem dX6_undo_43 : decode cX6_undo 43 = .ok (.iconst 0, 1) := by decide +kernel
theorem dX6_undo_44 : decode cX6_undo 44 = .ok (.iaload, 1) := by decide +kernel
theorem dX6_undo_45 : decode cX6_undo 45 = .ok (.ireturn, 1) := by decide +kernel
theorem dX6_tear_0 : decode cX6_tear 0 = .ok (.aload_n 0, 1) := by decide +kernel
theorem dX6_tear_1 : decode cX6_tear 1 = .ok (.getfield 259, 3) := by decide +kernel
theorem dX6_tear_4 : decode cX6_tear 4 = .ok (.ifCond .eq 7, 3) := by decide +kernel
theorem dX6_tear_7 : decode cX6_tear 7 = .ok (.iconst 1, 1) := by decide +kernel
theorem dX6_tear_8 : decode cX6_tear 8 = .ok (.goto 4, 3) := by decide +kernel
theorem dX6_tear_11 : decode cX6_tear 11 = .ok (.iconst 0, 1) := by decide +kernel
theorem dX6_tear_12 : decode cX6_tear 12 = .ok (.istore_n 1, 1) := by decide +kernel
theorem dX6_tear_13 : decode cX6_tear 13 = .ok (.aload_n 0, 1) := by decide +kernel
theorem dX6_tear_14 : decode cX6_tear 14 = .ok (.iconst 0, 1) := by decide +kernel
theorem dX6_tear_15 : decode cX6_tear 15 = .ok (.putfield 259, 3) := by decide +kernel
theorem dX6_tear_18 : decode cX6_tear 18 = .ok (.iload_n 1, 1) := by decide +kernel
theorem dX6_tear_19 : decode cX6_tear 19 = .ok (.ireturn, 1) := by decide +kernel
theorem dX6_count_0 : decode cX6_count 0 = .ok (.iconst 0, 1) := by decide +kernel
theorem dX6_count_1 : decode cX6_count 1 = .ok (.istore_n 2, 1) := by decide +kernel
theorem dX6_count_2 : decode cX6_count 2 = .ok (.iload_n 1, 1) := by decide +kernel
theorem dX6_count_3 : decode cX6_count 3 = .ok (.tableswitch 127 0 7 #[45, 52, 59, 67, 74, 79, 84, 91], 45) := by decide +kernel
theorem dX6_count_48 : decode cX6_count 48 = .ok (.aload_n 0, 1) := by decide +kernel
theorem dX6_count_49 : decode cX6_count 49 = .ok (.getfield 9, 3) := by decide +kernel
theorem dX6_count_52 : decode cX6_count 52 = .ok (.iconst 0, 1) := by decide +kernel
theorem dX6_count_53 : decode cX6_count 53 = .ok (.iaload, 1) := by decide +kernel
theorem dX6_count_54 : decode cX6_count 54 = .ok (.ireturn, 1) := by decide +kernel
theorem dX6_count_55 : decode cX6_count 55 = .ok (.aload_n 0, 1) := by decide +kernel
theorem dX6_count_56 : decode cX6_count 56 = .ok (.getfield 9, 3) := by decide +kernel
theorem dX6_count_59 : decode cX6_count 59 = .ok (.iconst 1, 1) := by decide +kernel
theorem dX6_count_60 : decode cX6_count 60 = .ok (.iaload, 1) := by decide +kernel
theorem dX6_count_61 : decode cX6_count 61 = .ok (.ireturn, 1) := by decide +kernel
theorem dX6_count_62 : decode cX6_count 62 = .ok (.aload_n 0, 1) := by decide +kernel
theorem dX6_count_63 : decode cX6_count 63 = .ok (.invokevirtual 117, 3) := by decide +kernel
theorem dX6_count_66 : decode cX6_count 66 = .ok (.invokestatic 121, 3) := by decide +kernel
theorem dX6_count_69 : decode cX6_count 69 = .ok (.ireturn, 1) := by decide +kernel
theorem dX6_count_70 : decode cX6_count 70 = .ok (.aload_n 0, 1) := by decide +kernel
theorem dX6_count_71 : decode cX6_count 71 = .ok (.getfield 9, 3) := by decide +kernel
theorem dX6_count_74 : decode cX6_count 74 = .ok (.iconst 2, 1) := by decide +kernel
theorem dX6_count_75 : decode cX6_count 75 = .ok (.iaload, 1) := by decide +kernel
theorem dX6_count_76 : decode cX6_count 76 = .ok (.ireturn, 1) := by decide +kernel
theorem dX6_count_77 : decode cX6_count 77 = .ok (.aload_n 0, 1) := by decide +kernel
theorem dX6_count_78 : decode cX6_count 78 = .ok (.invokevirtual 124, 3) := by decide +kernel
theorem dX6_count_81 : decode cX6_count 81 = .ok (.ireturn, 1) := by decide +kernel
theorem dX6_count_82 : decode cX6_count 82 = .ok (.aload_n 0, 1) := by decide +kernel
theorem dX6_count_83 : decode cX6_count 83 = .ok (.getfield 198, 3) := by decide +kernel
theorem dX6_count_86 : decode cX6_count 86 = .ok (.ireturn, 1) := by decide +kernel
theorem dX6_count_87 : decode cX6_count 87 = .ok (.aload_n 0, 1) := by decide +kernel
theorem dX6_count_88 : decode cX6_count 88 = .ok (.getfield 9, 3) := by decide +kernel
theorem dX6_count_91 : decode cX6_count 91 = .ok (.iconst 3, 1) := by decide +kernel
theorem dX6_count_92 : decode cX6_count 92 = .ok (.iaload, 1) := by decide +kernel
theorem dX6_count_93 : decode cX6_count 93 = .ok (.ireturn, 1) := by decide +kernel
theorem dX6_count_94 : decode cX6_count 94 = .ok (.iconst 0, 1) := by decide +kernel
theorem dX6_count_95 : decode cX6_count 95 = .ok (.istore_n 3, 1) := by decide +kernel
theorem dX6_count_96 : decode cX6_count 96 = .ok (.iload_n 3, 1) := by decide +kernel
theorem dX6_count_97 : decode cX6_count 97 = .ok (.bipush 10, 2) := by decide +kernel
theorem dX6_count_99 : decode cX6_count 99 = .ok (.if_icmp .ge 29, 3) := by decide +kernel
theorem dX6_count_102 : decode cX6_count 102 = .ok (.iload_n 2, 1) := by decide +kernel
theorem dX6_count_103 : decode cX6_count 103 = .ok (.aload_n 0, 1) := by decide +kernel
theorem dX6_count_104 : decode cX6_count 104 = .ok (.getfield 9, 3) := by decide +kernel
theorem dX6_count_107 : decode cX6_count 107 = .ok (.bipush 62, 2) := by decide +kernel
theorem dX6_count_109 : decode cX6_count 109 = .ok (.iload_n 3, 1) := by decide +kernel
theorem dX6_count_110 : decode cX6_count 110 = .ok (.iadd, 1) := by decide +kernel
theorem dX6_count_111 : decode cX6_count 111 = .ok (.iaload, 1) := by decide +kernel
theorem dX6_count_112 : decode cX6_count 112 = .ok (.ifCond .lt 7, 3) := by decide +kernel
theorem dX6_count_115 : decode cX6_count 115 = .ok (.iconst 1, 1) := by decide +kernel
theorem dX6_count_116 : decode cX6_count 116 = .ok (.goto 4, 3) := by decide +kernel
theorem dX6_count_119 : decode cX6_count 119 = .ok (.iconst 0, 1) := by decide +kernel
theorem dX6_count_120 : decode cX6_count 120 = .ok (.iadd, 1) := by decide +kernel
theorem dX6_count_121 : decode cX6_count 121 = .ok (.istore_n 2, 1) := by decide +kernel
theorem dX6_count_122 : decode cX6_count 122 = .ok (.iinc 3 1, 3) := by decide +kernel
theorem dX6_count_125 : decode cX6_count 125 = .ok (.goto (-29), 3) := by decide +kernel
theorem dX6_count_128 : decode cX6_count 128 = .ok (.iload_n 2, 1) := by decide +kernel
theorem dX6_count_129 : decode cX6_count 129 = .ok (.ireturn, 1) := by decide +kernel
theorem dX6_count_130 : decode cX6_count 130 = .ok (.aload_n 0, 1) := by decide +kernel
theorem dX6_count_131 : decode cX6_count 131 = .ok (.iconst 0, 1) := by decide +kernel
theorem dX6_count_132 : decode cX6_count 132 = .ok (.invokevirtual 94, 3) := by decide +kernel
theorem dX6_count_135 : decode cX6_count 135 = .ok (.ireturn, 1) := by decide +kernel
theorem dX6_status_0 : decode cX6_status 0 = .ok (.iload_n 1, 1) := by decide +kernel
theorem dX6_status_1 : decode cX6_status 1 = .ok (.iconst (-1), 1) := by decide +kernel
theorem dX6_status_2 : decode cX6_status 2 = .ok (.bipush 6, 2) := by decide +kernel
theorem dX6_status_4 : decode cX6_status 4 = .ok (.invokestatic 54, 3) := by decide +kernel
theorem dX6_status_7 : decode cX6_status 7 = .ok (.ifCond .ne 9, 3) := by decide +kernel
theorem dX6_status_10 : decode cX6_status 10 = .ok (.aload_n 0, 1) := by decide +kernel
theorem dX6_status_11 : decode cX6_status 11 = .ok (.iconst 0, 1) := by decide +kernel
theorem dX6_status_12 : decode cX6_status 12 = .ok (.invokevirtual 94, 3) := by decide +kernel
theorem dX6_status_15 : decode cX6_status 15 = .ok (.ireturn, 1) := by decide +kernel
theorem dX6_status_16 : decode cX6_status 16 = .ok (.iconst 0, 1) := by decide +kernel
theorem dX6_status_17 : decode cX6_status 17 = .ok (.istore_n 2, 1) := by decide +kernel
theorem dX6_status_18 : decode cX6_status 18 = .ok (.iconst 0, 1) := by decide +kernel
theorem dX6_status_19 : decode cX6_status 19 = .ok (.istore_n 3, 1) := by decide +kernel
theorem dX6_status_20 : decode cX6_status 20 = .ok (.iload_n 3, 1) := by decide +kernel
theorem dX6_status_21 : decode cX6_status 21 = .ok (.bipush 7, 2) := by decide +kernel
theorem dX6_status_23 : decode cX6_status 23 = .ok (.if_icmp .ge 32, 3) := by decide +kernel
theorem dX6_status_26 : decode cX6_status 26 = .ok (.iload_n 2, 1) := by decide +kernel
theorem dX6_status_27 : decode cX6_status 27 = .ok (.iload_n 1, 1) := by decide +kernel
theorem dX6_status_28 : decode cX6_status 28 = .ok (.iconst (-1), 1) := by decide +kernel
theorem dX6_status_29 : decode cX6_status 29 = .ok (.if_icmp .eq 8, 3) := by decide +kernel
theorem dX6_status_32 : decode cX6_status 32 = .ok (.iload_n 1, 1) := by decide +kernel
theorem dX6_status_33 : decode cX6_status 33 = .ok (.iload_n 3, 1) := by decide +kernel
theorem dX6_status_34 : decode cX6_status 34 = .ok (.if_icmp .ne 12, 3) := by decide +kernel
theorem dX6_status_37 : decode cX6_status 37 = .ok (.aload_n 0, 1) := by decide +kernel
theorem dX6_status_38 : decode cX6_status 38 = .ok (.getfield 19, 3) := by decide +kernel
theorem dX6_status_41 : decode cX6_status 41 = .ok (.iload_n 3, 1) := by decide +kernel
theorem dX6_status_42 : decode cX6_status 42 = .ok (.iaload, 1) := by decide +kernel
theorem dX6_status_43 : decode cX6_status 43 = .ok (.goto 4, 3) := by decide +kernel
theorem dX6_status_46 : decode cX6_status 46 = .ok (.iconst 0, 1) := by decide +kernel
theorem dX6_status_47 : decode cX6_status 47 = .ok (.iadd, 1) := by decide +kernel
theorem dX6_status_48 : decode cX6_status 48 = .ok (.istore_n 2, 1) := by decide +kernel
theorem dX6_status_49 : decode cX6_status 49 = .ok (.iinc 3 1, 3) := by decide +kernel
theorem dX6_status_52 : decode cX6_status 52 = .ok (.goto (-32), 3) := by decide +kernel
theorem dX6_status_55 : decode cX6_status 55 = .ok (.iload_n 2, 1) := by decide +kernel
theorem dX6_status_56 : decode cX6_status 56 = .ok (.ireturn, 1) := by decide +kernel
theorem dJ6_bitCount_0f7a4_0 : decode cJ6_bitCount_0f7a4 0 = .ok (.iload_n 0, 1) := by decide +kernel
theorem dJ6_bitCount_0f7a4_1 : decode cJ6_bitCount_0f7a4 1 = .ok (.iload_n 0, 1) := by decide +kernel
theorem dJ6_bitCount_0f7a4_2 : decode cJ6_bitCount_0f7a4 2 = .ok (.iconst 1, 1) := by decide +kernel
theorem dJ6_bitCount_0f7a4_3 : decode cJ6_bitCount_0f7a4 3 = .ok (.iushr, 1) := by decide +kernel
theorem dJ6_bitCount_0f7a4_4 : decode cJ6_bitCount_0f7a4 4 = .ok (.ldc_w 265, 3) := by decide +kernel
theorem dJ6_bitCount_0f7a4_7 : decode cJ6_bitCount_0f7a4 7 = .ok (.iand, 1) := by decide +kernel
theorem dJ6_bitCount_0f7a4_8 : decode cJ6_bitCount_0f7a4 8 = .ok (.isub, 1) := by decide +kernel
theorem dJ6_bitCount_0f7a4_9 : decode cJ6_bitCount_0f7a4 9 = .ok (.istore_n 0, 1) := by decide +kernel
theorem dJ6_bitCount_0f7a4_10 : decode cJ6_bitCount_0f7a4 10 = .ok (.iload_n 0, 1) := by decide +kernel
theorem dJ6_bitCount_0f7a4_11 : decode cJ6_bitCount_0f7a4 11 = .ok (.ldc_w 266, 3) := by decide +kernel
theorem dJ6_bitCount_0f7a4_14 : decode cJ6_bitCount_0f7a4 14 = .ok (.iand, 1) := by decide +kernel
theorem dJ6_bitCount_0f7a4_15 : decode cJ6_bitCount_0f7a4 15 = .ok (.iload_n 0, 1) := by decide +kernel
theorem dJ6_bitCount_0f7a4_16 : decode cJ6_bitCount_0f7a4 16 = .ok (.iconst 2, 1) := by decide +kernel
theorem dJ6_bitCount_0f7a4_17 : decode cJ6_bitCount_0f7a4 17 = .ok (.iushr, 1) := by decide +kernel
theorem dJ6_bitCount_0f7a4_18 : decode cJ6_bitCount_0f7a4 18 = .ok (.ldc_w 266, 3) := by decide +kernel
theorem dJ6_bitCount_0f7a4_21 : decode cJ6_bitCount_0f7a4 21 = .ok (.iand, 1) := by decide +kernel
theorem dJ6_bitCount_0f7a4_22 : decode cJ6_bitCount_0f7a4 22 = .ok (.iadd, 1) := by decide +kernel
theorem dJ6_bitCount_0f7a4_23 : decode cJ6_bitCount_0f7a4 23 = .ok (.istore_n 0, 1) := by decide +kernel
theorem dJ6_bitCount_0f7a4_24 : decode cJ6_bitCount_0f7a4 24 = .ok (.iload_n 0, 1) := by decide +kernel
theorem dJ6_bitCount_0f7a4_25 : decode cJ6_bitCount_0f7a4 25 = .ok (.iload_n 0, 1) := by decide +kernel
theorem dJ6_bitCount_0f7a4_26 : decode cJ6_bitCount_0f7a4 26 = .ok (.iconst 4, 1) := by decide +kernel
theorem dJ6_bitCount_0f7a4_27 : decode cJ6_bitCount_0f7a4 27 = .ok (.iushr, 1) := by decide +kernel
theorem dJ6_bitCount_0f7a4_28 : decode cJ6_bitCount_0f7a4 28 = .ok (.iadd, 1) := by decide +kernel
theorem dJ6_bitCount_0f7a4_29 : decode cJ6_bitCount_0f7a4 29 = .ok (.ldc_w 267, 3) := by decide +kernel
theorem dJ6_bitCount_0f7a4_32 : decode cJ6_bitCount_0f7a4 32 = .ok (.iand, 1) := by decide +kernel
theorem dJ6_bitCount_0f7a4_33 : decode cJ6_bitCount_0f7a4 33 = .ok (.istore_n 0, 1) := by decide +kernel
theorem dJ6_bitCount_0f7a4_34 : decode cJ6_bitCount_0f7a4 34 = .ok (.iload_n 0, 1) := by decide +kernel
theorem dJ6_bitCount_0f7a4_35 : decode cJ6_bitCount_0f7a4 35 = .ok (.iload_n 0, 1) := by decide +kernel
theorem dJ6_bitCount_0f7a4_36 : decode cJ6_bitCount_0f7a4 36 = .ok (.bipush 8, 2) := by decide +kernel
theorem dJ6_bitCount_0f7a4_38 : decode cJ6_bitCount_0f7a4 38 = .ok (.iushr, 1) := by decide +kernel
theorem dJ6_bitCount_0f7a4_39 : decode cJ6_bitCount_0f7a4 39 = .ok (.iadd, 1) := by decide +kernel
theorem dJ6_bitCount_0f7a4_40 : decode cJ6_bitCount_0f7a4 40 = .ok (.istore_n 0, 1) := by decide +kernel
theorem dJ6_bitCount_0f7a4_41 : decode cJ6_bitCount_0f7a4 41 = .ok (.iload_n 0, 1) := by decide +kernel
theorem dJ6_bitCount_0f7a4_42 : decode cJ6_bitCount_0f7a4 42 = .ok (.iload_n 0, 1) := by decide +kernel
theorem dJ6_bitCount_0f7a4_43 : decode cJ6_bitCount_0f7a4 43 = .ok (.bipush 16, 2) := by decide +kernel
theorem dJ6_bitCount_0f7a4_45 : decode cJ6_bitCount_0f7a4 45 = .ok (.iushr, 1) := by decide +kernel
theorem dJ6_bitCount_0f7a4_46 : decode cJ6_bitCount_0f7a4 46 = .ok (.iadd, 1) := by decide +kernel
theorem dJ6_bitCount_0f7a4_47 : decode cJ6_bitCount_0f7a4 47 = .ok (.istore_n 0, 1) := by decide +kernel
theorem dJ6_bitCount_0f7a4_48 : decode cJ6_bitCount_0f7a4 48 = .ok (.iload_n 0, 1) := by decide +kernel
theorem dJ6_bitCount_0f7a4_49 : decode cJ6_bitCount_0f7a4 49 = .ok (.bipush 63, 2) := by decide +kernel
theorem dJ6_bitCount_0f7a4_51 : decode cJ6_bitCount_0f7a4 51 = .ok (.iand, 1) := by decide +kernel
theorem dJ6_bitCount_0f7a4_52 : decode cJ6_bitCount_0f7a4 52 = .ok (.ireturn, 1) := by decide +kernel
theorem dJ9_abs_0f7a4_0 : decode cJ9_abs_0f7a4 0 = .ok (.iload_n 0, 1) := by decide +kernel
theorem dJ9_abs_0f7a4_1 : decode cJ9_abs_0f7a4 1 = .ok (.ifCond .ge 8, 3) := by decide +kernel
theorem dJ9_abs_0f7a4_4 : decode cJ9_abs_0f7a4 4 = .ok (.iload_n 0, 1) := by decide +kernel
theorem dJ9_abs_0f7a4_5 : decode cJ9_abs_0f7a4 5 = .ok (.ineg, 1) := by decide +kernel
theorem dJ9_abs_0f7a4_6 : decode cJ9_abs_0f7a4 6 = .ok (.goto 4, 3) := by decide +kernel
theorem dJ9_abs_0f7a4_9 : decode cJ9_abs_0f7a4 9 = .ok (.iload_n 0, 1) := by decide +kernel
theorem dJ9_abs_0f7a4_10 : decode cJ9_abs_0f7a4 10 = .ok (.ireturn, 1) := by decide +kernel
theorem dJ9_max_7cf53_0 : decode cJ9_max_7cf53 0 = .ok (.iload_n 0, 1) := by decide +kernel
theorem dJ9_max_7cf53_1 : decode cJ9_max_7cf53 1 = .ok (.iload_n 1, 1) := by decide +kernel
theorem dJ9_max_7cf53_2 : decode cJ9_max_7cf53 2 = .ok (.if_icmp .lt 7, 3) := by decide +kernel
theorem dJ9_max_7cf53_5 : decode cJ9_max_7cf53 5 = .ok (.iload_n 0, 1) := by decide +kernel
theorem dJ9_max_7cf53_6 : decode cJ9_max_7cf53 6 = .ok (.goto 4, 3) := by decide +kernel
theorem dJ9_max_7cf53_9 : decode cJ9_max_7cf53 9 = .ok (.iload_n 1, 1) := by decide +kernel
theorem dJ9_max_7cf53_10 : decode cJ9_max_7cf53 10 = .ok (.ireturn, 1) := by decide +kernel
theorem dJ9_min_7cf53_0 : decode cJ9_min_7cf53 0 = .ok (.iload_n 0, 1) := by decide +kernel
theorem dJ9_min_7cf53_1 : decode cJ9_min_7cf53 1 = .ok (.iload_n 1, 1) := by decide +kernel
theorem dJ9_min_7cf53_2 : decode cJ9_min_7cf53 2 = .ok (.if_icmp .gt 7, 3) := by decide +kernel
theorem dJ9_min_7cf53_5 : decode cJ9_min_7cf53 5 = .ok (.iload_n 0, 1) := by decide +kernel
theorem dJ9_min_7cf53_6 : decode cJ9_min_7cf53 6 = .ok (.goto 4, 3) := by decide +kernel
theorem dJ9_min_7cf53_9 : decode cJ9_min_7cf53 9 = .ok (.iload_n 1, 1) := by decide +kernel
theorem dJ9_min_7cf53_10 : decode cJ9_min_7cf53 10 = .ok (.ireturn, 1) := by decide +kernel
theorem dJ0_length_8abf5_0 : decode cJ0_length_8abf5 0 = .ok (.aload_n 0, 1) := by decide +kernel
theorem dJ0_length_8abf5_1 : decode cJ0_length_8abf5 1 = .ok (.getfield 9, 3) := by decide +kernel
theorem dJ0_length_8abf5_4 : decode cJ0_length_8abf5 4 = .ok (.arraylength, 1) := by decide +kernel
theorem dJ0_length_8abf5_5 : decode cJ0_length_8abf5 5 = .ok (.aload_n 0, 1) := by decide +kernel
theorem dJ0_length_8abf5_6 : decode cJ0_length_8abf5 6 = .ok (.invokevirtual 335, 3) := by decide +kernel
theorem dJ0_length_8abf5_9 : decode cJ0_length_8abf5 9 = .ok (.ishr, 1) := by decide +kernel
theorem dJ0_length_8abf5_10 : decode cJ0_length_8abf5 10 = .ok (.ireturn, 1) := by decide +kernel
theorem dJ0_charAt_5068e_0 : decode cJ0_charAt_5068e 0 = .ok (.aload_n 0, 1) := by decide +kernel
theorem dJ0_charAt_5068e_1 : decode cJ0_charAt_5068e 1 = .ok (.invokevirtual 492, 3) := by decide +kernel
theorem dJ0_charAt_5068e_4 : decode cJ0_charAt_5068e 4 = .ok (.ifCond .eq 12, 3) := by decide +kernel
theorem dJ0_charAt_5068e_7 : decode cJ0_charAt_5068e 7 = .ok (.aload_n 0, 1) := by decide +kernel
theorem dJ0_charAt_5068e_8 : decode cJ0_charAt_5068e 8 = .ok (.getfield 9, 3) := by decide +kernel
theorem dJ0_charAt_5068e_11 : decode cJ0_charAt_5068e 11 = .ok (.iload_n 1, 1) := by decide +kernel
theorem dJ0_charAt_5068e_12 : decode cJ0_charAt_5068e 12 = .ok (.invokestatic 495, 3) := by decide +kernel
theorem dJ0_charAt_5068e_15 : decode cJ0_charAt_5068e 15 = .ok (.ireturn, 1) := by decide +kernel
theorem dJ0_charAt_5068e_16 : decode cJ0_charAt_5068e 16 = .ok (.aload_n 0, 1) := by decide +kernel
theorem dJ0_charAt_5068e_17 : decode cJ0_charAt_5068e 17 = .ok (.getfield 9, 3) := by decide +kernel
theorem dJ0_charAt_5068e_20 : decode cJ0_charAt_5068e 20 = .ok (.iload_n 1, 1) := by decide +kernel
theorem dJ0_charAt_5068e_21 : decode cJ0_charAt_5068e 21 = .ok (.invokestatic 498, 3) := by decide +kernel
theorem dJ0_charAt_5068e_24 : decode cJ0_charAt_5068e 24 = .ok (.ireturn, 1) := by decide +kernel
theorem dJ0_coder_7d493_0 : decode cJ0_coder_7d493 0 = .ok (.getstatic 38, 3) := by decide +kernel
theorem dJ0_coder_7d493_3 : decode cJ0_coder_7d493 3 = .ok (.ifCond .eq 10, 3) := by decide +kernel
theorem dJ0_coder_7d493_6 : decode cJ0_coder_7d493 6 = .ok (.aload_n 0, 1) := by decide +kernel
theorem dJ0_coder_7d493_7 : decode cJ0_coder_7d493 7 = .ok (.getfield 15, 3) := by decide +kernel
theorem dJ0_coder_7d493_10 : decode cJ0_coder_7d493 10 = .ok (.goto 4, 3) := by decide +kernel
theorem dJ0_coder_7d493_13 : decode cJ0_coder_7d493 13 = .ok (.iconst 1, 1) := by decide +kernel
theorem dJ0_coder_7d493_14 : decode cJ0_coder_7d493 14 = .ok (.ireturn, 1) := by decide +kernel
theorem dJ0_isLatin1_aae02_0 : decode cJ0_isLatin1_aae02 0 = .ok (.getstatic 38, 3) := by decide +kernel
theorem dJ0_isLatin1_aae02_3 : decode cJ0_isLatin1_aae02 3 = .ok (.ifCond .eq 14, 3) := by decide +kernel
theorem dJ0_isLatin1_aae02_6 : decode cJ0_isLatin1_aae02 6 = .ok (.aload_n 0, 1) := by decide +kernel
theorem dJ0_isLatin1_aae02_7 : decode cJ0_isLatin1_aae02 7 = .ok (.getfield 15, 3) := by decide +kernel
theorem dJ0_isLatin1_aae02_10 : decode cJ0_isLatin1_aae02 10 = .ok (.ifCond .ne 7, 3) := by decide +kernel
theorem dJ0_isLatin1_aae02_13 : decode cJ0_isLatin1_aae02 13 = .ok (.iconst 1, 1) := by decide +kernel
theorem dJ0_isLatin1_aae02_14 : decode cJ0_isLatin1_aae02 14 = .ok (.goto 4, 3) := by decide +kernel
theorem dJ0_isLatin1_aae02_17 : decode cJ0_isLatin1_aae02 17 = .ok (.iconst 0, 1) := by decide +kernel
theorem dJ0_isLatin1_aae02_18 : decode cJ0_isLatin1_aae02 18 = .ok (.ireturn, 1) := by decide +kernel
theorem dJ0_checkIndex_df160_0 : decode cJ0_checkIndex_df160 0 = .ok (.iload_n 0, 1) := by decide +kernel
theorem dJ0_checkIndex_df160_1 : decode cJ0_checkIndex_df160 1 = .ok (.iload_n 1, 1) := by decide +kernel
theorem dJ0_checkIndex_df160_2 : decode cJ0_checkIndex_df160 2 = .ok (.getstatic 1053, 3) := by decide +kernel
theorem dJ0_checkIndex_df160_5 : decode cJ0_checkIndex_df160 5 = .ok (.invokestatic 1059, 3) := by decide +kernel
theorem dJ0_checkIndex_df160_8 : decode cJ0_checkIndex_df160 8 = .ok (.pop, 1) := by decide +kernel
theorem dJ0_checkIndex_df160_9 : decode cJ0_checkIndex_df160 9 = .ok (.return_, 1) := by decide +kernel
theorem dJ1_charAt_3b067_0 : decode cJ1_charAt_3b067 0 = .ok (.iload_n 1, 1) := by decide +kernel
theorem dJ1_charAt_3b067_1 : decode cJ1_charAt_3b067 1 = .ok (.aload_n 0, 1) := by decide +kernel
theorem dJ1_charAt_3b067_2 : decode cJ1_charAt_3b067 2 = .ok (.arraylength, 1) := by decide +kernel
theorem dJ1_charAt_3b067_3 : decode cJ1_charAt_3b067 3 = .ok (.invokestatic 9, 3) := by decide +kernel
theorem dJ1_charAt_3b067_6 : decode cJ1_charAt_3b067 6 = .ok (.aload_n 0, 1) := by decide +kernel
theorem dJ1_charAt_3b067_7 : decode cJ1_charAt_3b067 7 = .ok (.iload_n 1, 1) := by decide +kernel
theorem dJ1_charAt_3b067_8 : decode cJ1_charAt_3b067 8 = .ok (.baload, 1) := by decide +kernel
theorem dJ1_charAt_3b067_9 : decode cJ1_charAt_3b067 9 = .ok (.sipush 255, 3) := by decide +kernel
theorem dJ1_charAt_3b067_12 : decode cJ1_charAt_3b067 12 = .ok (.iand, 1) := by decide +kernel
theorem dJ1_charAt_3b067_13 : decode cJ1_charAt_3b067 13 = .ok (.i2c, 1) := by decide +kernel
theorem dJ1_charAt_3b067_14 : decode cJ1_charAt_3b067 14 = .ok (.ireturn, 1) := by decide +kernel
theorem dJ2_getChar_3b067_0 : decode cJ2_getChar_3b067 0 = .ok (.getstatic 44, 3) := by decide +kernel
theorem dJ2_getChar_3b067_3 : decode cJ2_getChar_3b067 3 = .ok (.ifCond .ne 25, 3) := by decide +kernel
theorem dJ2_getChar_3b067_6 : decode cJ2_getChar_3b067 6 = .ok (.iload_n 1, 1) := by decide +kernel
theorem dJ2_getChar_3b067_7 : decode cJ2_getChar_3b067 7 = .ok (.ifCond .lt 11, 3) := by decide +kernel
theorem dJ2_getChar_3b067_10 : decode cJ2_getChar_3b067 10 = .ok (.iload_n 1, 1) := by decide +kernel
theorem dJ2_getChar_3b067_11 : decode cJ2_getChar_3b067 11 = .ok (.aload_n 0, 1) := by decide +kernel
theorem dJ2_getChar_3b067_12 : decode cJ2_getChar_3b067 12 = .ok (.invokestatic 48, 3) := by decide +kernel
theorem dJ2_getChar_3b067_15 : decode cJ2_getChar_3b067 15 = .ok (.if_icmp .lt 13, 3) := by decide +kernel
theorem dJ2_getChar_3b067_18 : decode cJ2_getChar_3b067 18 = .ok (.new 52, 3) := by decide +kernel
theorem dJ2_getChar_3b067_21 : decode cJ2_getChar_3b067 21 = .ok (.dup, 1) := by decide +kernel
theorem dJ2_getChar_3b067_22 : decode cJ2_getChar_3b067 22 = .ok (.ldc 54, 2) := by decide +kernel
theorem dJ2_getChar_3b067_24 : decode cJ2_getChar_3b067 24 = .ok (.invokespecial 56, 3) := by decide +kernel
theorem dJ2_getChar_3b067_27 : decode cJ2_getChar_3b067 27 = .ok (.athrow, 1) := by decide +kernel
theorem dJ2_getChar_3b067_28 : decode cJ2_getChar_3b067 28 = .ok (.iload_n 1, 1) := by decide +kernel
theorem dJ2_getChar_3b067_29 : decode cJ2_getChar_3b067 29 = .ok (.iconst 1, 1) := by decide +kernel
theorem dJ2_getChar_3b067_30 : decode cJ2_getChar_3b067 30 = .ok (.ishl, 1) := by decide +kernel
theorem dJ2_getChar_3b067_31 : decode cJ2_getChar_3b067 31 = .ok (.istore_n 1, 1) := by decide +kernel
theorem dJ2_getChar_3b067_32 : decode cJ2_getChar_3b067 32 = .ok (.aload_n 0, 1) := by decide +kernel
theorem dJ2_getChar_3b067_33 : decode cJ2_getChar_3b067 33 = .ok (.iload_n 1, 1) := by decide +kernel
theorem dJ2_getChar_3b067_34 : decode cJ2_getChar_3b067 34 = .ok (.iinc 1 1, 3) := by decide +kernel
theorem dJ2_getChar_3b067_37 : decode cJ2_getChar_3b067 37 = .ok (.baload, 1) := by decide +kernel
theorem dJ2_getChar_3b067_38 : decode cJ2_getChar_3b067 38 = .ok (.sipush 255, 3) := by decide +kernel
theorem dJ2_getChar_3b067_41 : decode cJ2_getChar_3b067 41 = .ok (.iand, 1) := by decide +kernel
theorem dJ2_getChar_3b067_42 : decode cJ2_getChar_3b067 42 = .ok (.getstatic 59, 3) := by decide +kernel
theorem dJ2_getChar_3b067_45 : decode cJ2_getChar_3b067 45 = .ok (.ishl, 1) := by decide +kernel
theorem dJ2_getChar_3b067_46 : decode cJ2_getChar_3b067 46 = .ok (.aload_n 0, 1) := by decide +kernel
theorem dJ2_getChar_3b067_47 : decode cJ2_getChar_3b067 47 = .ok (.iload_n 1, 1) := by decide +kernel
theorem dJ2_getChar_3b067_48 : decode cJ2_getChar_3b067 48 = .ok (.baload, 1) := by decide +kernel
theorem dJ2_getChar_3b067_49 : decode cJ2_getChar_3b067 49 = .ok (.sipush 255, 3) := by decide +kernel
theorem dJ2_getChar_3b067_52 : decode cJ2_getChar_3b067 52 = .ok (.iand, 1) := by decide +kernel
theorem dJ2_getChar_3b067_53 : decode cJ2_getChar_3b067 53 = .ok (.getstatic 63, 3) := by decide +kernel
theorem dJ2_getChar_3b067_56 : decode cJ2_getChar_3b067 56 = .ok (.ishl, 1) := by decide +kernel
theorem dJ2_getChar_3b067_57 : decode cJ2_getChar_3b067 57 = .ok (.ior, 1) := by decide +kernel
theorem dJ2_getChar_3b067_58 : decode cJ2_getChar_3b067 58 = .ok (.i2c, 1) := by decide +kernel
theorem dJ2_getChar_3b067_59 : decode cJ2_getChar_3b067 59 = .ok (.ireturn, 1) := by decide +kernel
theorem dJ2_length_9d52b_0 : decode cJ2_length_9d52b 0 = .ok (.aload_n 0, 1) := by decide +kernel
theorem dJ2_length_9d52b_1 : decode cJ2_length_9d52b 1 = .ok (.arraylength, 1) := by decide +kernel
theorem dJ2_length_9d52b_2 : decode cJ2_length_9d52b 2 = .ok (.iconst 1, 1) := by decide +kernel
theorem dJ2_length_9d52b_3 : decode cJ2_length_9d52b 3 = .ok (.ishr, 1) := by decide +kernel
theorem dJ2_length_9d52b_4 : decode cJ2_length_9d52b 4 = .ok (.ireturn, 1) := by decide +kernel
theorem dJ2_charAt_3b067_0 : decode cJ2_charAt_3b067 0 = .ok (.iload_n 1, 1) := by decide +kernel
theorem dJ2_charAt_3b067_1 : decode cJ2_charAt_3b067 1 = .ok (.aload_n 0, 1) := by decide +kernel
theorem dJ2_charAt_3b067_2 : decode cJ2_charAt_3b067 2 = .ok (.invokestatic 67, 3) := by decide +kernel
theorem dJ2_charAt_3b067_5 : decode cJ2_charAt_3b067 5 = .ok (.aload_n 0, 1) := by decide +kernel
theorem dJ2_charAt_3b067_6 : decode cJ2_charAt_3b067 6 = .ok (.iload_n 1, 1) := by decide +kernel
theorem dJ2_charAt_3b067_7 : decode cJ2_charAt_3b067 7 = .ok (.invokestatic 71, 3) := by decide +kernel
theorem dJ2_charAt_3b067_10 : decode cJ2_charAt_3b067 10 = .ok (.ireturn, 1) := by decide +kernel
theorem dJ2_checkIndex_2214a_0 : decode cJ2_checkIndex_2214a 0 = .ok (.iload_n 0, 1) := by decide +kernel
theorem dJ2_checkIndex_2214a_1 : decode cJ2_checkIndex_2214a 1 = .ok (.aload_n 1, 1) := by decide +kernel
theorem dJ2_checkIndex_2214a_2 : decode cJ2_checkIndex_2214a 2 = .ok (.invokestatic 48, 3) := by decide +kernel
theorem dJ2_checkIndex_2214a_5 : decode cJ2_checkIndex_2214a 5 = .ok (.invokestatic 414, 3) := by decide +kernel
theorem dJ2_checkIndex_2214a_8 : decode cJ2_checkIndex_2214a 8 = .ok (.return_, 1) := by decide +kernel
theorem dJ7_fill_53178_0 : decode cJ7_fill_53178 0 = .ok (.iconst 0, 1) := by decide +kernel
theorem dJ7_fill_53178_1 : decode cJ7_fill_53178 1 = .ok (.istore_n 2, 1) := by decide +kernel
theorem dJ7_fill_53178_2 : decode cJ7_fill_53178 2 = .ok (.aload_n 0, 1) := by decide +kernel
theorem dJ7_fill_53178_3 : decode cJ7_fill_53178 3 = .ok (.arraylength, 1) := by decide +kernel
theorem dJ7_fill_53178_4 : decode cJ7_fill_53178 4 = .ok (.istore_n 3, 1) := by decide +kernel
theorem dJ7_fill_53178_5 : decode cJ7_fill_53178 5 = .ok (.iload_n 2, 1) := by decide +kernel
theorem dJ7_fill_53178_6 : decode cJ7_fill_53178 6 = .ok (.iload_n 3, 1) := by decide +kernel
theorem dJ7_fill_53178_7 : decode cJ7_fill_53178 7 = .ok (.if_icmp .ge 13, 3) := by decide +kernel
theorem dJ7_fill_53178_10 : decode cJ7_fill_53178 10 = .ok (.aload_n 0, 1) := by decide +kernel
theorem dJ7_fill_53178_11 : decode cJ7_fill_53178 11 = .ok (.iload_n 2, 1) := by decide +kernel
theorem dJ7_fill_53178_12 : decode cJ7_fill_53178 12 = .ok (.iload_n 1, 1) := by decide +kernel
theorem dJ7_fill_53178_13 : decode cJ7_fill_53178 13 = .ok (.iastore, 1) := by decide +kernel
theorem dJ7_fill_53178_14 : decode cJ7_fill_53178 14 = .ok (.iinc 2 1, 3) := by decide +kernel
theorem dJ7_fill_53178_17 : decode cJ7_fill_53178 17 = .ok (.goto (-12), 3) := by decide +kernel
theorem dJ7_fill_53178_20 : decode cJ7_fill_53178 20 = .ok (.return_, 1) := by decide +kernel
theorem dJ3_checkIndex_8e157_0 : decode cJ3_checkIndex_8e157 0 = .ok (.iload_n 0, 1) := by decide +kernel
theorem dJ3_checkIndex_8e157_1 : decode cJ3_checkIndex_8e157 1 = .ok (.ifCond .lt 8, 3) := by decide +kernel
theorem dJ3_checkIndex_8e157_4 : decode cJ3_checkIndex_8e157 4 = .ok (.iload_n 0, 1) := by decide +kernel
theorem dJ3_checkIndex_8e157_5 : decode cJ3_checkIndex_8e157 5 = .ok (.iload_n 1, 1) := by decide +kernel
theorem dJ3_checkIndex_8e157_6 : decode cJ3_checkIndex_8e157 6 = .ok (.if_icmp .lt 10, 3) := by decide +kernel
theorem dJ3_checkIndex_8e157_9 : decode cJ3_checkIndex_8e157 9 = .ok (.aload_n 2, 1) := by decide +kernel
theorem dJ3_checkIndex_8e157_10 : decode cJ3_checkIndex_8e157 10 = .ok (.iload_n 0, 1) := by decide +kernel
theorem dJ3_checkIndex_8e157_11 : decode cJ3_checkIndex_8e157 11 = .ok (.iload_n 1, 1) := by decide +kernel
theorem dJ3_checkIndex_8e157_12 : decode cJ3_checkIndex_8e157 12 = .ok (.invokestatic 95, 3) := by decide +kernel
theorem dJ3_checkIndex_8e157_15 : decode cJ3_checkIndex_8e157 15 = .ok (.athrow, 1) := by decide +kernel
theorem dJ3_checkIndex_8e157_16 : decode cJ3_checkIndex_8e157 16 = .ok (.iload_n 0, 1) := by decide +kernel
theorem dJ3_checkIndex_8e157_17 : decode cJ3_checkIndex_8e157 17 = .ok (.ireturn, 1) := by decide +kernel
theorem dL_law_0 : decode cL_law 0 = .ok (.new 7, 3) := by decide +kernel
theorem dL_law_3 : decode cL_law 3 = .ok (.dup, 1) := by decide +kernel
theorem dL_law_4 : decode cL_law 4 = .ok (.invokespecial 9, 3) := by decide +kernel
theorem dL_law_7 : decode cL_law 7 = .ok (.astore_n 1, 1) := by decide +kernel
theorem dL_law_8 : decode cL_law 8 = .ok (.new 10, 3) := by decide +kernel
theorem dL_law_11 : decode cL_law 11 = .ok (.dup, 1) := by decide +kernel
theorem dL_law_12 : decode cL_law 12 = .ok (.invokespecial 12, 3) := by decide +kernel
theorem dL_law_15 : decode cL_law 15 = .ok (.astore_n 2, 1) := by decide +kernel
theorem dL_law_16 : decode cL_law 16 = .ok (.iconst 0, 1) := by decide +kernel
theorem dL_law_17 : decode cL_law 17 = .ok (.istore_n 3, 1) := by decide +kernel
theorem dL_law_18 : decode cL_law 18 = .ok (.iload_n 3, 1) := by decide +kernel
theorem dL_law_19 : decode cL_law 19 = .ok (.aload_n 0, 1) := by decide +kernel
theorem dL_law_20 : decode cL_law 20 = .ok (.arraylength, 1) := by decide +kernel
theorem dL_law_21 : decode cL_law 21 = .ok (.bipush 6, 2) := by decide +kernel
theorem dL_law_23 : decode cL_law 23 = .ok (.isub, 1) := by decide +kernel
theorem dL_law_24 : decode cL_law 24 = .ok (.if_icmp .gt 1631, 3) := by decide +kernel
theorem dL_law_27 : decode cL_law 27 = .ok (.aload_n 0, 1) := by decide +kernel
theorem dL_law_28 : decode cL_law 28 = .ok (.iload_n 3, 1) := by decide +kernel
theorem dL_law_29 : decode cL_law 29 = .ok (.iaload, 1) := by decide +kernel
theorem dL_law_30 : decode cL_law 30 = .ok (.bipush 63, 2) := by decide +kernel
theorem dL_law_32 : decode cL_law 32 = .ok (.iand, 1) := by decide +kernel
theorem dL_law_33 : decode cL_law 33 = .ok (.tableswitch 1616 0 49 #[215, 248, 281, 324, 367, 400, 433, 466, 489, 512, 545, 578, 601, 624, 647, 670, 703, 726, 759, 782, 805, 838, 881, 924, 947, 970, 993, 1016, 1029, 1052, 1075, 1098, 1131, 1154, 1188, 1211, 1244, 1257, 1270, 1303, 1336, 1379, 1422, 1485, 1508, 1531, 1544, 1557, 1570, 1593], 215) := by decide +kernel
theorem dL_law_248 : decode cL_law 248 = .ok (.aload_n 1, 1) := by decide +kernel
theorem dL_law_249 : decode cL_law 249 = .ok (.aload_n 0, 1) := by decide +kernel
theorem dL_law_250 : decode cL_law 250 = .ok (.iload_n 3, 1) := by decide +kernel
theorem dL_law_251 : decode cL_law 251 = .ok (.iconst 1, 1) := by decide +kernel
theorem dL_law_252 : decode cL_law 252 = .ok (.iadd, 1) := by decide +kernel
theorem dL_law_253 : decode cL_law 253 = .ok (.iaload, 1) := by decide +kernel
theorem dL_law_254 : decode cL_law 254 = .ok (.aload_n 0, 1) := by decide +kernel
theorem dL_law_255 : decode cL_law 255 = .ok (.iload_n 3, 1) := by decide +kernel
theorem dL_law_256 : decode cL_law 256 = .ok (.iconst 2, 1) := by decide +kernel
theorem dL_law_257 : decode cL_law 257 = .ok (.iadd, 1) := by decide +kernel
theorem dL_law_258 : decode cL_law 258 = .ok (.iaload, 1) := by decide +kernel
theorem dL_law_259 : decode cL_law 259 = .ok (.invokevirtual 13, 3) := by decide +kernel
theorem dL_law_262 : decode cL_law 262 = .ok (.aload_n 2, 1) := by decide +kernel
theorem dL_law_263 : decode cL_law 263 = .ok (.aload_n 0, 1) := by decide +kernel
theorem dL_law_264 : decode cL_law 264 = .ok (.iload_n 3, 1) := by decide +kernel
theorem dL_law_265 : decode cL_law 265 = .ok (.iconst 1, 1) := by decide +kernel
theorem dL_law_266 : decode cL_law 266 = .ok (.iadd, 1) := by decide +kernel
theorem dL_law_267 : decode cL_law 267 = .ok (.iaload, 1) := by decide +kernel
theorem dL_law_268 : decode cL_law 268 = .ok (.aload_n 0, 1) := by decide +kernel
theorem dL_law_269 : decode cL_law 269 = .ok (.iload_n 3, 1) := by decide +kernel
theorem dL_law_270 : decode cL_law 270 = .ok (.iconst 2, 1) := by decide +kernel
theorem dL_law_271 : decode cL_law 271 = .ok (.iadd, 1) := by decide +kernel
theorem dL_law_272 : decode cL_law 272 = .ok (.iaload, 1) := by decide +kernel
theorem dL_law_273 : decode cL_law 273 = .ok (.invokevirtual 17, 3) := by decide +kernel
theorem dL_law_276 : decode cL_law 276 = .ok (.if_icmp .eq 1373, 3) := by decide +kernel
theorem dL_law_279 : decode cL_law 279 = .ok (.iconst 0, 1) := by decide +kernel
theorem dL_law_280 : decode cL_law 280 = .ok (.ireturn, 1) := by decide +kernel
theorem dL_law_281 : decode cL_law 281 = .ok (.aload_n 1, 1) := by decide +kernel
theorem dL_law_282 : decode cL_law 282 = .ok (.aload_n 0, 1) := by decide +kernel
theorem dL_law_283 : decode cL_law 283 = .ok (.iload_n 3, 1) := by decide +kernel
theorem dL_law_284 : decode cL_law 284 = .ok (.iconst 1, 1) := by decide +kernel
theorem dL_law_285 : decode cL_law 285 = .ok (.iadd, 1) := by decide +kernel
theorem dL_law_286 : decode cL_law 286 = .ok (.iaload, 1) := by decide +kernel
theorem dL_law_287 : decode cL_law 287 = .ok (.aload_n 0, 1) := by decide +kernel
theorem dL_law_288 : decode cL_law 288 = .ok (.iload_n 3, 1) := by decide +kernel
theorem dL_law_289 : decode cL_law 289 = .ok (.iconst 2, 1) := by decide +kernel
theorem dL_law_290 : decode cL_law 290 = .ok (.iadd, 1) := by decide +kernel
theorem dL_law_291 : decode cL_law 291 = .ok (.iaload, 1) := by decide +kernel
theorem dL_law_292 : decode cL_law 292 = .ok (.invokevirtual 18, 3) := by decide +kernel
theorem dL_law_295 : decode cL_law 295 = .ok (.aload_n 2, 1) := by decide +kernel
theorem dL_law_296 : decode cL_law 296 = .ok (.aload_n 0, 1) := by decide +kernel
theorem dL_law_297 : decode cL_law 297 = .ok (.iload_n 3, 1) := by decide +kernel
theorem dL_law_298 : decode cL_law 298 = .ok (.iconst 1, 1) := by decide +kernel
theorem dL_law_299 : decode cL_law 299 = .ok (.iadd, 1) := by decide +kernel
theorem dL_law_300 : decode cL_law 300 = .ok (.iaload, 1) := by decide +kernel
theorem dL_law_301 : decode cL_law 301 = .ok (.aload_n 0, 1) := by decide +kernel
theorem dL_law_302 : decode cL_law 302 = .ok (.iload_n 3, 1) := by decide +kernel
theorem dL_law_303 : decode cL_law 303 = .ok (.iconst 2, 1) := by decide +kernel
theorem dL_law_304 : decode cL_law 304 = .ok (.iadd, 1) := by decide +kernel
theorem dL_law_305 : decode cL_law 305 = .ok (.iaload, 1) := by decide +kernel
theorem dL_law_306 : decode cL_law 306 = .ok (.invokevirtual 21, 3) := by decide +kernel
theorem dL_law_309 : decode cL_law 309 = .ok (.if_icmp .eq 1340, 3) := by decide +kernel
theorem dL_law_312 : decode cL_law 312 = .ok (.iconst 0, 1) := by decide +kernel
theorem dL_law_313 : decode cL_law 313 = .ok (.ireturn, 1) := by decide +kernel
theorem dL_law_314 : decode cL_law 314 = .ok (.aload_n 1, 1) := by decide +kernel
theorem dL_law_315 : decode cL_law 315 = .ok (.aload_n 0, 1) := by decide +kernel
theorem dL_law_316 : decode cL_law 316 = .ok (.iload_n 3, 1) := by decide +kernel
theorem dL_law_317 : decode cL_law 317 = .ok (.iconst 1, 1) := by decide +kernel
theorem dL_law_318 : decode cL_law 318 = .ok (.iadd, 1) := by decide +kernel
theorem dL_law_319 : decode cL_law 319 = .ok (.iaload, 1) := by decide +kernel
theorem dL_law_320 : decode cL_law 320 = .ok (.aload_n 0, 1) := by decide +kernel
theorem dL_law_321 : decode cL_law 321 = .ok (.iload_n 3, 1) := by decide +kernel
theorem dL_law_322 : decode cL_law 322 = .ok (.iconst 2, 1) := by decide +kernel
theorem dL_law_323 : decode cL_law 323 = .ok (.iadd, 1) := by decide +kernel
theorem dL_law_324 : decode cL_law 324 = .ok (.iaload, 1) := by decide +kernel
theorem dL_law_325 : decode cL_law 325 = .ok (.aload_n 0, 1) := by decide +kernel
theorem dL_law_326 : decode cL_law 326 = .ok (.iload_n 3, 1) := by decide +kernel
theorem dL_law_327 : decode cL_law 327 = .ok (.iconst 3, 1) := by decide +kernel
theorem dL_law_328 : decode cL_law 328 = .ok (.iadd, 1) := by decide +kernel
theorem dL_law_329 : decode cL_law 329 = .ok (.iaload, 1) := by decide +kernel
theorem dL_law_330 : decode cL_law 330 = .ok (.invokevirtual 22, 3) := by decide +kernel
theorem dL_law_333 : decode cL_law 333 = .ok (.aload_n 2, 1) := by decide +kernel
theorem dL_law_334 : decode cL_law 334 = .ok (.aload_n 0, 1) := by decide +kernel
theorem dL_law_335 : decode cL_law 335 = .ok (.iload_n 3, 1) := by decide +kernel
theorem dL_law_336 : decode cL_law 336 = .ok (.iconst 1, 1) := by decide +kernel
theorem dL_law_337 : decode cL_law 337 = .ok (.iadd, 1) := by decide +kernel
theorem dL_law_338 : decode cL_law 338 = .ok (.iaload, 1) := by decide +kernel
theorem dL_law_339 : decode cL_law 339 = .ok (.aload_n 0, 1) := by decide +kernel
theorem dL_law_340 : decode cL_law 340 = .ok (.iload_n 3, 1) := by decide +kernel
theorem dL_law_341 : decode cL_law 341 = .ok (.iconst 2, 1) := by decide +kernel
theorem dL_law_342 : decode cL_law 342 = .ok (.iadd, 1) := by decide +kernel
theorem dL_law_343 : decode cL_law 343 = .ok (.iaload, 1) := by decide +kernel
theorem dL_law_344 : decode cL_law 344 = .ok (.aload_n 0, 1) := by decide +kernel
theorem dL_law_345 : decode cL_law 345 = .ok (.iload_n 3, 1) := by decide +kernel
theorem dL_law_346 : decode cL_law 346 = .ok (.iconst 3, 1) := by decide +kernel
theorem dL_law_347 : decode cL_law 347 = .ok (.iadd, 1) := by decide +kernel
theorem dL_law_348 : decode cL_law 348 = .ok (.iaload, 1) := by decide +kernel
theorem dL_law_349 : decode cL_law 349 = .ok (.invokevirtual 26, 3) := by decide +kernel
theorem dL_law_352 : decode cL_law 352 = .ok (.if_icmp .eq 1297, 3) := by decide +kernel
theorem dL_law_355 : decode cL_law 355 = .ok (.iconst 0, 1) := by decide +kernel
theorem dL_law_356 : decode cL_law 356 = .ok (.ireturn, 1) := by decide +kernel
theorem dL_law_357 : decode cL_law 357 = .ok (.aload_n 1, 1) := by decide +kernel
theorem dL_law_358 : decode cL_law 358 = .ok (.aload_n 0, 1) := by decide +kernel
theorem dL_law_359 : decode cL_law 359 = .ok (.iload_n 3, 1) := by decide +kernel
theorem dL_law_360 : decode cL_law 360 = .ok (.iconst 1, 1) := by decide +kernel
theorem dL_law_361 : decode cL_law 361 = .ok (.iadd, 1) := by decide +kernel
theorem dL_law_362 : decode cL_law 362 = .ok (.iaload, 1) := by decide +kernel
theorem dL_law_363 : decode cL_law 363 = .ok (.aload_n 0, 1) := by decide +kernel
theorem dL_law_364 : decode cL_law 364 = .ok (.iload_n 3, 1) := by decide +kernel
theorem dL_law_365 : decode cL_law 365 = .ok (.iconst 2, 1) := by decide +kernel
theorem dL_law_366 : decode cL_law 366 = .ok (.iadd, 1) := by decide +kernel
theorem dL_law_367 : decode cL_law 367 = .ok (.iaload, 1) := by decide +kernel
theorem dL_law_368 : decode cL_law 368 = .ok (.aload_n 0, 1) := by decide +kernel
theorem dL_law_369 : decode cL_law 369 = .ok (.iload_n 3, 1) := by decide +kernel
theorem dL_law_370 : decode cL_law 370 = .ok (.iconst 3, 1) := by decide +kernel
theorem dL_law_371 : decode cL_law 371 = .ok (.iadd, 1) := by decide +kernel
theorem dL_law_372 : decode cL_law 372 = .ok (.iaload, 1) := by decide +kernel
theorem dL_law_373 : decode cL_law 373 = .ok (.invokevirtual 27, 3) := by decide +kernel
theorem dL_law_376 : decode cL_law 376 = .ok (.aload_n 2, 1) := by decide +kernel
theorem dL_law_377 : decode cL_law 377 = .ok (.aload_n 0, 1) := by decide +kernel
theorem dL_law_378 : decode cL_law 378 = .ok (.iload_n 3, 1) := by decide +kernel
theorem dL_law_379 : decode cL_law 379 = .ok (.iconst 1, 1) := by decide +kernel
theorem dL_law_380 : decode cL_law 380 = .ok (.iadd, 1) := by decide +kernel
theorem dL_law_381 : decode cL_law 381 = .ok (.iaload, 1) := by decide +kernel
theorem dL_law_382 : decode cL_law 382 = .ok (.aload_n 0, 1) := by decide +kernel
theorem dL_law_383 : decode cL_law 383 = .ok (.iload_n 3, 1) := by decide +kernel
theorem dL_law_384 : decode cL_law 384 = .ok (.iconst 2, 1) := by decide +kernel
theorem dL_law_385 : decode cL_law 385 = .ok (.iadd, 1) := by decide +kernel
theorem dL_law_386 : decode cL_law 386 = .ok (.iaload, 1) := by decide +kernel
theorem dL_law_387 : decode cL_law 387 = .ok (.aload_n 0, 1) := by decide +kernel
theorem dL_law_388 : decode cL_law 388 = .ok (.iload_n 3, 1) := by decide +kernel
theorem dL_law_389 : decode cL_law 389 = .ok (.iconst 3, 1) := by decide +kernel
theorem dL_law_390 : decode cL_law 390 = .ok (.iadd, 1) := by decide +kernel
theorem dL_law_391 : decode cL_law 391 = .ok (.iaload, 1) := by decide +kernel
theorem dL_law_392 : decode cL_law 392 = .ok (.invokevirtual 30, 3) := by decide +kernel
theorem dL_law_395 : decode cL_law 395 = .ok (.if_icmp .eq 1254, 3) := by decide +kernel
theorem dL_law_398 : decode cL_law 398 = .ok (.iconst 0, 1) := by decide +kernel
theorem dL_law_399 : decode cL_law 399 = .ok (.ireturn, 1) := by decide +kernel
theorem dL_law_400 : decode cL_law 400 = .ok (.aload_n 1, 1) := by decide +kernel
theorem dL_law_401 : decode cL_law 401 = .ok (.aload_n 0, 1) := by decide +kernel
theorem dL_law_402 : decode cL_law 402 = .ok (.iload_n 3, 1) := by decide +kernel
theorem dL_law_403 : decode cL_law 403 = .ok (.iconst 1, 1) := by decide +kernel
theorem dL_law_404 : decode cL_law 404 = .ok (.iadd, 1) := by decide +kernel
theorem dL_law_405 : decode cL_law 405 = .ok (.iaload, 1) := by decide +kernel
theorem dL_law_406 : decode cL_law 406 = .ok (.aload_n 0, 1) := by decide +kernel
theorem dL_law_407 : decode cL_law 407 = .ok (.iload_n 3, 1) := by decide +kernel
theorem dL_law_408 : decode cL_law 408 = .ok (.iconst 2, 1) := by decide +kernel
theorem dL_law_409 : decode cL_law 409 = .ok (.iadd, 1) := by decide +kernel
theorem dL_law_410 : decode cL_law 410 = .ok (.iaload, 1) := by decide +kernel
theorem dL_law_411 : decode cL_law 411 = .ok (.invokevirtual 31, 3) := by decide +kernel
theorem dL_law_414 : decode cL_law 414 = .ok (.aload_n 2, 1) := by decide +kernel
theorem dL_law_415 : decode cL_law 415 = .ok (.aload_n 0, 1) := by decide +kernel
theorem dL_law_416 : decode cL_law 416 = .ok (.iload_n 3, 1) := by decide +kernel
theorem dL_law_417 : decode cL_law 417 = .ok (.iconst 1, 1) := by decide +kernel
theorem dL_law_418 : decode cL_law 418 = .ok (.iadd, 1) := by decide +kernel
theorem dL_law_419 : decode cL_law 419 = .ok (.iaload, 1) := by decide +kernel
theorem dL_law_420 : decode cL_law 420 = .ok (.aload_n 0, 1) := by decide +kernel
theorem dL_law_421 : decode cL_law 421 = .ok (.iload_n 3, 1) := by decide +kernel
theorem dL_law_422 : decode cL_law 422 = .ok (.iconst 2, 1) := by decide +kernel
theorem dL_law_423 : decode cL_law 423 = .ok (.iadd, 1) := by decide +kernel
theorem dL_law_424 : decode cL_law 424 = .ok (.iaload, 1) := by decide +kernel
theorem dL_law_425 : decode cL_law 425 = .ok (.invokevirtual 34, 3) := by decide +kernel
theorem dL_law_428 : decode cL_law 428 = .ok (.if_icmp .eq 1221, 3) := by decide +kernel
theorem dL_law_431 : decode cL_law 431 = .ok (.iconst 0, 1) := by decide +kernel
theorem dL_law_432 : decode cL_law 432 = .ok (.ireturn, 1) := by decide +kernel
theorem dL_law_433 : decode cL_law 433 = .ok (.aload_n 1, 1) := by decide +kernel
theorem dL_law_434 : decode cL_law 434 = .ok (.aload_n 0, 1) := by decide +kernel
theorem dL_law_435 : decode cL_law 435 = .ok (.iload_n 3, 1) := by decide +kernel
theorem dL_law_436 : decode cL_law 436 = .ok (.iconst 1, 1) := by decide +kernel
theorem dL_law_437 : decode cL_law 437 = .ok (.iadd, 1) := by decide +kernel
theorem dL_law_438 : decode cL_law 438 = .ok (.iaload, 1) := by decide +kernel
theorem dL_law_439 : decode cL_law 439 = .ok (.aload_n 0, 1) := by decide +kernel
theorem dL_law_440 : decode cL_law 440 = .ok (.iload_n 3, 1) := by decide +kernel
theorem dL_law_441 : decode cL_law 441 = .ok (.iconst 2, 1) := by decide +kernel
theorem dL_law_442 : decode cL_law 442 = .ok (.iadd, 1) := by decide +kernel
theorem dL_law_443 : decode cL_law 443 = .ok (.iaload, 1) := by decide +kernel
theorem dL_law_444 : decode cL_law 444 = .ok (.invokevirtual 35, 3) := by decide +kernel
theorem dL_law_447 : decode cL_law 447 = .ok (.aload_n 2, 1) := by decide +kernel
theorem dL_law_448 : decode cL_law 448 = .ok (.aload_n 0, 1) := by decide +kernel
theorem dL_law_449 : decode cL_law 449 = .ok (.iload_n 3, 1) := by decide +kernel
theorem dL_law_450 : decode cL_law 450 = .ok (.iconst 1, 1) := by decide +kernel
theorem dL_law_451 : decode cL_law 451 = .ok (.iadd, 1) := by decide +kernel
theorem dL_law_452 : decode cL_law 452 = .ok (.iaload, 1) := by decide +kernel
theorem dL_law_453 : decode cL_law 453 = .ok (.aload_n 0, 1) := by decide +kernel
theorem dL_law_454 : decode cL_law 454 = .ok (.iload_n 3, 1) := by decide +kernel
theorem dL_law_455 : decode cL_law 455 = .ok (.iconst 2, 1) := by decide +kernel
theorem dL_law_456 : decode cL_law 456 = .ok (.iadd, 1) := by decide +kernel
theorem dL_law_457 : decode cL_law 457 = .ok (.iaload, 1) := by decide +kernel
theorem dL_law_458 : decode cL_law 458 = .ok (.invokevirtual 38, 3) := by decide +kernel
theorem dL_law_461 : decode cL_law 461 = .ok (.if_icmp .eq 1188, 3) := by decide +kernel
theorem dL_law_464 : decode cL_law 464 = .ok (.iconst 0, 1) := by decide +kernel
theorem dL_law_465 : decode cL_law 465 = .ok (.ireturn, 1) := by decide +kernel
theorem dL_law_466 : decode cL_law 466 = .ok (.aload_n 1, 1) := by decide +kernel
theorem dL_law_467 : decode cL_law 467 = .ok (.aload_n 0, 1) := by decide +kernel
theorem dL_law_468 : decode cL_law 468 = .ok (.iload_n 3, 1) := by decide +kernel
theorem dL_law_469 : decode cL_law 469 = .ok (.iconst 1, 1) := by decide +kernel
theorem dL_law_470 : decode cL_law 470 = .ok (.iadd, 1) := by decide +kernel
theorem dL_law_471 : decode cL_law 471 = .ok (.iaload, 1) := by decide +kernel
theorem dL_law_472 : decode cL_law 472 = .ok (.aload_n 0, 1) := by decide +kernel
theorem dL_law_473 : decode cL_law 473 = .ok (.iload_n 3, 1) := by decide +kernel
theorem dL_law_474 : decode cL_law 474 = .ok (.iconst 2, 1) := by decide +kernel
theorem dL_law_475 : decode cL_law 475 = .ok (.iadd, 1) := by decide +kernel
theorem dL_law_476 : decode cL_law 476 = .ok (.iaload, 1) := by decide +kernel
theorem dL_law_477 : decode cL_law 477 = .ok (.invokevirtual 39, 3) := by decide +kernel
theorem dL_law_480 : decode cL_law 480 = .ok (.aload_n 2, 1) := by decide +kernel
theorem dL_law_481 : decode cL_law 481 = .ok (.aload_n 0, 1) := by decide +kernel
theorem dL_law_482 : decode cL_law 482 = .ok (.iload_n 3, 1) := by decide +kernel
theorem dL_law_483 : decode cL_law 483 = .ok (.iconst 1, 1) := by decide +kernel
theorem dL_law_484 : decode cL_law 484 = .ok (.iadd, 1) := by decide +kernel
theorem dL_law_485 : decode cL_law 485 = .ok (.iaload, 1) := by decide +kernel
theorem dL_law_486 : decode cL_law 486 = .ok (.aload_n 0, 1) := by decide +kernel
theorem dL_law_487 : decode cL_law 487 = .ok (.iload_n 3, 1) := by decide +kernel
theorem dL_law_488 : decode cL_law 488 = .ok (.iconst 2, 1) := by decide +kernel
theorem dL_law_489 : decode cL_law 489 = .ok (.iadd, 1) := by decide +kernel
theorem dL_law_490 : decode cL_law 490 = .ok (.iaload, 1) := by decide +kernel
theorem dL_law_491 : decode cL_law 491 = .ok (.invokevirtual 42, 3) := by decide +kernel
theorem dL_law_494 : decode cL_law 494 = .ok (.if_icmp .eq 1155, 3) := by decide +kernel
theorem dL_law_497 : decode cL_law 497 = .ok (.iconst 0, 1) := by decide +kernel
theorem dL_law_498 : decode cL_law 498 = .ok (.ireturn, 1) := by decide +kernel
theorem dL_law_499 : decode cL_law 499 = .ok (.aload_n 1, 1) := by decide +kernel
theorem dL_law_500 : decode cL_law 500 = .ok (.aload_n 0, 1) := by decide +kernel
theorem dL_law_501 : decode cL_law 501 = .ok (.iload_n 3, 1) := by decide +kernel
theorem dL_law_502 : decode cL_law 502 = .ok (.iconst 1, 1) := by decide +kernel
theorem dL_law_503 : decode cL_law 503 = .ok (.iadd, 1) := by decide +kernel
theorem dL_law_504 : decode cL_law 504 = .ok (.iaload, 1) := by decide +kernel
theorem dL_law_505 : decode cL_law 505 = .ok (.invokevirtual 43, 3) := by decide +kernel
theorem dL_law_508 : decode cL_law 508 = .ok (.aload_n 2, 1) := by decide +kernel
theorem dL_law_509 : decode cL_law 509 = .ok (.aload_n 0, 1) := by decide +kernel
theorem dL_law_510 : decode cL_law 510 = .ok (.iload_n 3, 1) := by decide +kernel
theorem dL_law_511 : decode cL_law 511 = .ok (.iconst 1, 1) := by decide +kernel
theorem dL_law_512 : decode cL_law 512 = .ok (.iadd, 1) := by decide +kernel
theorem dL_law_513 : decode cL_law 513 = .ok (.iaload, 1) := by decide +kernel
theorem dL_law_514 : decode cL_law 514 = .ok (.invokevirtual 47, 3) := by decide +kernel
theorem dL_law_517 : decode cL_law 517 = .ok (.if_icmp .eq 1132, 3) := by decide +kernel
theorem dL_law_520 : decode cL_law 520 = .ok (.iconst 0, 1) := by decide +kernel
theorem dL_law_521 : decode cL_law 521 = .ok (.ireturn, 1) := by decide +kernel
theorem dL_law_522 : decode cL_law 522 = .ok (.aload_n 1, 1) := by decide +kernel
theorem dL_law_523 : decode cL_law 523 = .ok (.aload_n 0, 1) := by decide +kernel
theorem dL_law_524 : decode cL_law 524 = .ok (.iload_n 3, 1) := by decide +kernel
theorem dL_law_525 : decode cL_law 525 = .ok (.iconst 1, 1) := by decide +kernel
theorem dL_law_526 : decode cL_law 526 = .ok (.iadd, 1) := by decide +kernel
theorem dL_law_527 : decode cL_law 527 = .ok (.iaload, 1) := by decide +kernel
theorem dL_law_528 : decode cL_law 528 = .ok (.invokevirtual 48, 3) := by decide +kernel
theorem dL_law_531 : decode cL_law 531 = .ok (.aload_n 2, 1) := by decide +kernel
theorem dL_law_532 : decode cL_law 532 = .ok (.aload_n 0, 1) := by decide +kernel
theorem dL_law_533 : decode cL_law 533 = .ok (.iload_n 3, 1) := by decide +kernel
theorem dL_law_534 : decode cL_law 534 = .ok (.iconst 1, 1) := by decide +kernel
theorem dL_law_535 : decode cL_law 535 = .ok (.iadd, 1) := by decide +kernel
theorem dL_law_536 : decode cL_law 536 = .ok (.iaload, 1) := by decide +kernel
theorem dL_law_537 : decode cL_law 537 = .ok (.invokevirtual 51, 3) := by decide +kernel
theorem dL_law_540 : decode cL_law 540 = .ok (.if_icmp .eq 1109, 3) := by decide +kernel
theorem dL_law_543 : decode cL_law 543 = .ok (.iconst 0, 1) := by decide +kernel
theorem dL_law_544 : decode cL_law 544 = .ok (.ireturn, 1) := by decide +kernel
theorem dL_law_545 : decode cL_law 545 = .ok (.aload_n 1, 1) := by decide +kernel
theorem dL_law_546 : decode cL_law 546 = .ok (.aload_n 0, 1) := by decide +kernel
theorem dL_law_547 : decode cL_law 547 = .ok (.iload_n 3, 1) := by decide +kernel
theorem dL_law_548 : decode cL_law 548 = .ok (.iconst 1, 1) := by decide +kernel
theorem dL_law_549 : decode cL_law 549 = .ok (.iadd, 1) := by decide +kernel
theorem dL_law_550 : decode cL_law 550 = .ok (.iaload, 1) := by decide +kernel
theorem dL_law_551 : decode cL_law 551 = .ok (.aload_n 0, 1) := by decide +kernel
theorem dL_law_552 : decode cL_law 552 = .ok (.iload_n 3, 1) := by decide +kernel
theorem dL_law_553 : decode cL_law 553 = .ok (.iconst 2, 1) := by decide +kernel
theorem dL_law_554 : decode cL_law 554 = .ok (.iadd, 1) := by decide +kernel
theorem dL_law_555 : decode cL_law 555 = .ok (.iaload, 1) := by decide +kernel
theorem dL_law_556 : decode cL_law 556 = .ok (.invokevirtual 52, 3) := by decide +kernel
theorem dL_law_559 : decode cL_law 559 = .ok (.aload_n 2, 1) := by decide +kernel
theorem dL_law_560 : decode cL_law 560 = .ok (.aload_n 0, 1) := by decide +kernel
theorem dL_law_561 : decode cL_law 561 = .ok (.iload_n 3, 1) := by decide +kernel
theorem dL_law_562 : decode cL_law 562 = .ok (.iconst 1, 1) := by decide +kernel
theorem dL_law_563 : decode cL_law 563 = .ok (.iadd, 1) := by decide +kernel
theorem dL_law_564 : decode cL_law 564 = .ok (.iaload, 1) := by decide +kernel
theorem dL_law_565 : decode cL_law 565 = .ok (.aload_n 0, 1) := by decide +kernel
theorem dL_law_566 : decode cL_law 566 = .ok (.iload_n 3, 1) := by decide +kernel
theorem dL_law_567 : decode cL_law 567 = .ok (.iconst 2, 1) := by decide +kernel
theorem dL_law_568 : decode cL_law 568 = .ok (.iadd, 1) := by decide +kernel
theorem dL_law_569 : decode cL_law 569 = .ok (.iaload, 1) := by decide +kernel
theorem dL_law_570 : decode cL_law 570 = .ok (.invokevirtual 55, 3) := by decide +kernel
theorem dL_law_573 : decode cL_law 573 = .ok (.if_icmp .eq 1076, 3) := by decide +kernel
theorem dL_law_576 : decode cL_law 576 = .ok (.iconst 0, 1) := by decide +kernel
theorem dL_law_577 : decode cL_law 577 = .ok (.ireturn, 1) := by decide +kernel
theorem dL_law_578 : decode cL_law 578 = .ok (.aload_n 1, 1) := by decide +kernel
theorem dL_law_579 : decode cL_law 579 = .ok (.aload_n 0, 1) := by decide +kernel
theorem dL_law_580 : decode cL_law 580 = .ok (.iload_n 3, 1) := by decide +kernel
theorem dL_law_581 : decode cL_law 581 = .ok (.iconst 1, 1) := by decide +kernel
theorem dL_law_582 : decode cL_law 582 = .ok (.iadd, 1) := by decide +kernel
theorem dL_law_583 : decode cL_law 583 = .ok (.iaload, 1) := by decide +kernel
theorem dL_law_584 : decode cL_law 584 = .ok (.aload_n 0, 1) := by decide +kernel
theorem dL_law_585 : decode cL_law 585 = .ok (.iload_n 3, 1) := by decide +kernel
theorem dL_law_586 : decode cL_law 586 = .ok (.iconst 2, 1) := by decide +kernel
theorem dL_law_587 : decode cL_law 587 = .ok (.iadd, 1) := by decide +kernel
theorem dL_law_588 : decode cL_law 588 = .ok (.iaload, 1) := by decide +kernel
theorem dL_law_589 : decode cL_law 589 = .ok (.invokevirtual 56, 3) := by decide +kernel
theorem dL_law_592 : decode cL_law 592 = .ok (.aload_n 2, 1) := by decide +kernel
theorem dL_law_593 : decode cL_law 593 = .ok (.aload_n 0, 1) := by decide +kernel
theorem dL_law_594 : decode cL_law 594 = .ok (.iload_n 3, 1) := by decide +kernel
theorem dL_law_595 : decode cL_law 595 = .ok (.iconst 1, 1) := by decide +kernel
theorem dL_law_596 : decode cL_law 596 = .ok (.iadd, 1) := by decide +kernel
theorem dL_law_597 : decode cL_law 597 = .ok (.iaload, 1) := by decide +kernel
theorem dL_law_598 : decode cL_law 598 = .ok (.aload_n 0, 1) := by decide +kernel
theorem dL_law_599 : decode cL_law 599 = .ok (.iload_n 3, 1) := by decide +kernel
theorem dL_law_600 : decode cL_law 600 = .ok (.iconst 2, 1) := by decide +kernel
theorem dL_law_601 : decode cL_law 601 = .ok (.iadd, 1) := by decide +kernel
theorem dL_law_602 : decode cL_law 602 = .ok (.iaload, 1) := by decide +kernel
theorem dL_law_603 : decode cL_law 603 = .ok (.invokevirtual 59, 3) := by decide +kernel
theorem dL_law_606 : decode cL_law 606 = .ok (.if_icmp .eq 1043, 3) := by decide +kernel
theorem dL_law_609 : decode cL_law 609 = .ok (.iconst 0, 1) := by decide +kernel
theorem dL_law_610 : decode cL_law 610 = .ok (.ireturn, 1) := by decide +kernel
theorem dL_law_611 : decode cL_law 611 = .ok (.aload_n 1, 1) := by decide +kernel
theorem dL_law_612 : decode cL_law 612 = .ok (.aload_n 0, 1) := by decide +kernel
theorem dL_law_613 : decode cL_law 613 = .ok (.iload_n 3, 1) := by decide +kernel
theorem dL_law_614 : decode cL_law 614 = .ok (.iconst 1, 1) := by decide +kernel
theorem dL_law_615 : decode cL_law 615 = .ok (.iadd, 1) := by decide +kernel
theorem dL_law_616 : decode cL_law 616 = .ok (.iaload, 1) := by decide +kernel
theorem dL_law_617 : decode cL_law 617 = .ok (.invokevirtual 60, 3) := by decide +kernel
theorem dL_law_620 : decode cL_law 620 = .ok (.aload_n 2, 1) := by decide +kernel
theorem dL_law_621 : decode cL_law 621 = .ok (.aload_n 0, 1) := by decide +kernel
theorem dL_law_622 : decode cL_law 622 = .ok (.iload_n 3, 1) := by decide +kernel
theorem dL_law_623 : decode cL_law 623 = .ok (.iconst 1, 1) := by decide +kernel
theorem dL_law_624 : decode cL_law 624 = .ok (.iadd, 1) := by decide +kernel
theorem dL_law_625 : decode cL_law 625 = .ok (.iaload, 1) := by decide +kernel
theorem dL_law_626 : decode cL_law 626 = .ok (.invokevirtual 63, 3) := by decide +kernel
theorem dL_law_629 : decode cL_law 629 = .ok (.if_icmp .eq 1020, 3) := by decide +kernel
theorem dL_law_632 : decode cL_law 632 = .ok (.iconst 0, 1) := by decide +kernel
theorem dL_law_633 : decode cL_law 633 = .ok (.ireturn, 1) := by decide +kernel
theorem dL_law_634 : decode cL_law 634 = .ok (.aload_n 1, 1) := by decide +kernel
theorem dL_law_635 : decode cL_law 635 = .ok (.aload_n 0, 1) := by decide +kernel
theorem dL_law_636 : decode cL_law 636 = .ok (.iload_n 3, 1) := by decide +kernel
theorem dL_law_637 : decode cL_law 637 = .ok (.iconst 1, 1) := by decide +kernel
theorem dL_law_638 : decode cL_law 638 = .ok (.iadd, 1) := by decide +kernel
theorem dL_law_639 : decode cL_law 639 = .ok (.iaload, 1) := by decide +kernel
theorem dL_law_640 : decode cL_law 640 = .ok (.invokevirtual 64, 3) := by decide +kernel
theorem dL_law_643 : decode cL_law 643 = .ok (.aload_n 2, 1) := by decide +kernel
theorem dL_law_644 : decode cL_law 644 = .ok (.aload_n 0, 1) := by decide +kernel
theorem dL_law_645 : decode cL_law 645 = .ok (.iload_n 3, 1) := by decide +kernel
theorem dL_law_646 : decode cL_law 646 = .ok (.iconst 1, 1) := by decide +kernel
theorem dL_law_647 : decode cL_law 647 = .ok (.iadd, 1) := by decide +kernel
theorem dL_law_648 : decode cL_law 648 = .ok (.iaload, 1) := by decide +kernel
theorem dL_law_649 : decode cL_law 649 = .ok (.invokevirtual 67, 3) := by decide +kernel
theorem dL_law_652 : decode cL_law 652 = .ok (.if_icmp .eq 997, 3) := by decide +kernel
theorem dL_law_655 : decode cL_law 655 = .ok (.iconst 0, 1) := by decide +kernel
theorem dL_law_656 : decode cL_law 656 = .ok (.ireturn, 1) := by decide +kernel
theorem dL_law_657 : decode cL_law 657 = .ok (.aload_n 1, 1) := by decide +kernel
theorem dL_law_658 : decode cL_law 658 = .ok (.aload_n 0, 1) := by decide +kernel
theorem dL_law_659 : decode cL_law 659 = .ok (.iload_n 3, 1) := by decide +kernel
theorem dL_law_660 : decode cL_law 660 = .ok (.iconst 1, 1) := by decide +kernel
theorem dL_law_661 : decode cL_law 661 = .ok (.iadd, 1) := by decide +kernel
theorem dL_law_662 : decode cL_law 662 = .ok (.iaload, 1) := by decide +kernel
theorem dL_law_663 : decode cL_law 663 = .ok (.invokevirtual 68, 3) := by decide +kernel
theorem dL_law_666 : decode cL_law 666 = .ok (.aload_n 2, 1) := by decide +kernel
theorem dL_law_667 : decode cL_law 667 = .ok (.aload_n 0, 1) := by decide +kernel
theorem dL_law_668 : decode cL_law 668 = .ok (.iload_n 3, 1) := by decide +kernel
theorem dL_law_669 : decode cL_law 669 = .ok (.iconst 1, 1) := by decide +kernel
theorem dL_law_670 : decode cL_law 670 = .ok (.iadd, 1) := by decide +kernel
theorem dL_law_671 : decode cL_law 671 = .ok (.iaload, 1) := by decide +kernel
theorem dL_law_672 : decode cL_law 672 = .ok (.invokevirtual 71, 3) := by decide +kernel
theorem dL_law_675 : decode cL_law 675 = .ok (.if_icmp .eq 974, 3) := by decide +kernel
theorem dL_law_678 : decode cL_law 678 = .ok (.iconst 0, 1) := by decide +kernel
theorem dL_law_679 : decode cL_law 679 = .ok (.ireturn, 1) := by decide +kernel
theorem dL_law_680 : decode cL_law 680 = .ok (.aload_n 1, 1) := by decide +kernel
theorem dL_law_681 : decode cL_law 681 = .ok (.aload_n 0, 1) := by decide +kernel
theorem dL_law_682 : decode cL_law 682 = .ok (.iload_n 3, 1) := by decide +kernel
theorem dL_law_683 : decode cL_law 683 = .ok (.iconst 1, 1) := by decide +kernel
theorem dL_law_684 : decode cL_law 684 = .ok (.iadd, 1) := by decide +kernel
theorem dL_law_685 : decode cL_law 685 = .ok (.iaload, 1) := by decide +kernel
theorem dL_law_686 : decode cL_law 686 = .ok (.invokevirtual 72, 3) := by decide +kernel
theorem dL_law_689 : decode cL_law 689 = .ok (.aload_n 2, 1) := by decide +kernel
theorem dL_law_690 : decode cL_law 690 = .ok (.aload_n 0, 1) := by decide +kernel
theorem dL_law_691 : decode cL_law 691 = .ok (.iload_n 3, 1) := by decide +kernel
theorem dL_law_692 : decode cL_law 692 = .ok (.iconst 1, 1) := by decide +kernel
theorem dL_law_693 : decode cL_law 693 = .ok (.iadd, 1) := by decide +kernel
theorem dL_law_694 : decode cL_law 694 = .ok (.iaload, 1) := by decide +kernel
theorem dL_law_695 : decode cL_law 695 = .ok (.invokevirtual 75, 3) := by decide +kernel
theorem dL_law_698 : decode cL_law 698 = .ok (.if_icmp .eq 951, 3) := by decide +kernel
theorem dL_law_701 : decode cL_law 701 = .ok (.iconst 0, 1) := by decide +kernel
theorem dL_law_702 : decode cL_law 702 = .ok (.ireturn, 1) := by decide +kernel
theorem dL_law_703 : decode cL_law 703 = .ok (.aload_n 1, 1) := by decide +kernel
theorem dL_law_704 : decode cL_law 704 = .ok (.aload_n 0, 1) := by decide +kernel
theorem dL_law_705 : decode cL_law 705 = .ok (.iload_n 3, 1) := by decide +kernel
theorem dL_law_706 : decode cL_law 706 = .ok (.iconst 1, 1) := by decide +kernel
theorem dL_law_707 : decode cL_law 707 = .ok (.iadd, 1) := by decide +kernel
theorem dL_law_708 : decode cL_law 708 = .ok (.iaload, 1) := by decide +kernel
theorem dL_law_709 : decode cL_law 709 = .ok (.aload_n 0, 1) := by decide +kernel
theorem dL_law_710 : decode cL_law 710 = .ok (.iload_n 3, 1) := by decide +kernel
theorem dL_law_711 : decode cL_law 711 = .ok (.iconst 2, 1) := by decide +kernel
theorem dL_law_712 : decode cL_law 712 = .ok (.iadd, 1) := by decide +kernel
theorem dL_law_713 : decode cL_law 713 = .ok (.iaload, 1) := by decide +kernel
theorem dL_law_714 : decode cL_law 714 = .ok (.invokevirtual 76, 3) := by decide +kernel
theorem dL_law_717 : decode cL_law 717 = .ok (.aload_n 2, 1) := by decide +kernel
theorem dL_law_718 : decode cL_law 718 = .ok (.aload_n 0, 1) := by decide +kernel
theorem dL_law_719 : decode cL_law 719 = .ok (.iload_n 3, 1) := by decide +kernel
theorem dL_law_720 : decode cL_law 720 = .ok (.iconst 1, 1) := by decide +kernel
theorem dL_law_721 : decode cL_law 721 = .ok (.iadd, 1) := by decide +kernel
theorem dL_law_722 : decode cL_law 722 = .ok (.iaload, 1) := by decide +kernel
theorem dL_law_723 : decode cL_law 723 = .ok (.aload_n 0, 1) := by decide +kernel
theorem dL_law_724 : decode cL_law 724 = .ok (.iload_n 3, 1) := by decide +kernel
theorem dL_law_725 : decode cL_law 725 = .ok (.iconst 2, 1) := by decide +kernel
theorem dL_law_726 : decode cL_law 726 = .ok (.iadd, 1) := by decide +kernel
theorem dL_law_727 : decode cL_law 727 = .ok (.iaload, 1) := by decide +kernel
theorem dL_law_728 : decode cL_law 728 = .ok (.invokevirtual 79, 3) := by decide +kernel
theorem dL_law_731 : decode cL_law 731 = .ok (.if_icmp .eq 918, 3) := by decide +kernel
theorem dL_law_734 : decode cL_law 734 = .ok (.iconst 0, 1) := by decide +kernel
theorem dL_law_735 : decode cL_law 735 = .ok (.ireturn, 1) := by decide +kernel
theorem dL_law_736 : decode cL_law 736 = .ok (.aload_n 1, 1) := by decide +kernel
theorem dL_law_737 : decode cL_law 737 = .ok (.aload_n 0, 1) := by decide +kernel
theorem dL_law_738 : decode cL_law 738 = .ok (.iload_n 3, 1) := by decide +kernel
theorem dL_law_739 : decode cL_law 739 = .ok (.iconst 1, 1) := by decide +kernel
theorem dL_law_740 : decode cL_law 740 = .ok (.iadd, 1) := by decide +kernel
theorem dL_law_741 : decode cL_law 741 = .ok (.iaload, 1) := by decide +kernel
theorem dL_law_742 : decode cL_law 742 = .ok (.invokevirtual 80, 3) := by decide +kernel
theorem dL_law_745 : decode cL_law 745 = .ok (.aload_n 2, 1) := by decide +kernel
theorem dL_law_746 : decode cL_law 746 = .ok (.aload_n 0, 1) := by decide +kernel
theorem dL_law_747 : decode cL_law 747 = .ok (.iload_n 3, 1) := by decide +kernel
theorem dL_law_748 : decode cL_law 748 = .ok (.iconst 1, 1) := by decide +kernel
theorem dL_law_749 : decode cL_law 749 = .ok (.iadd, 1) := by decide +kernel
theorem dL_law_750 : decode cL_law 750 = .ok (.iaload, 1) := by decide +kernel
theorem dL_law_751 : decode cL_law 751 = .ok (.invokevirtual 83, 3) := by decide +kernel
theorem dL_law_754 : decode cL_law 754 = .ok (.if_icmp .eq 895, 3) := by decide +kernel
theorem dL_law_757 : decode cL_law 757 = .ok (.iconst 0, 1) := by decide +kernel
theorem dL_law_758 : decode cL_law 758 = .ok (.ireturn, 1) := by decide +kernel
theorem dL_law_759 : decode cL_law 759 = .ok (.aload_n 1, 1) := by decide +kernel
theorem dL_law_760 : decode cL_law 760 = .ok (.aload_n 0, 1) := by decide +kernel
theorem dL_law_761 : decode cL_law 761 = .ok (.iload_n 3, 1) := by decide +kernel
theorem dL_law_762 : decode cL_law 762 = .ok (.iconst 1, 1) := by decide +kernel
theorem dL_law_763 : decode cL_law 763 = .ok (.iadd, 1) := by decide +kernel
theorem dL_law_764 : decode cL_law 764 = .ok (.iaload, 1) := by decide +kernel
theorem dL_law_765 : decode cL_law 765 = .ok (.aload_n 0, 1) := by decide +kernel
theorem dL_law_766 : decode cL_law 766 = .ok (.iload_n 3, 1) := by decide +kernel
theorem dL_law_767 : decode cL_law 767 = .ok (.iconst 2, 1) := by decide +kernel
theorem dL_law_768 : decode cL_law 768 = .ok (.iadd, 1) := by decide +kernel
theorem dL_law_769 : decode cL_law 769 = .ok (.iaload, 1) := by decide +kernel
theorem dL_law_770 : decode cL_law 770 = .ok (.invokevirtual 84, 3) := by decide +kernel
theorem dL_law_773 : decode cL_law 773 = .ok (.aload_n 2, 1) := by decide +kernel
theorem dL_law_774 : decode cL_law 774 = .ok (.aload_n 0, 1) := by decide +kernel
theorem dL_law_775 : decode cL_law 775 = .ok (.iload_n 3, 1) := by decide +kernel
theorem dL_law_776 : decode cL_law 776 = .ok (.iconst 1, 1) := by decide +kernel
theorem dL_law_777 : decode cL_law 777 = .ok (.iadd, 1) := by decide +kernel
theorem dL_law_778 : decode cL_law 778 = .ok (.iaload, 1) := by decide +kernel
theorem dL_law_779 : decode cL_law 779 = .ok (.aload_n 0, 1) := by decide +kernel
theorem dL_law_780 : decode cL_law 780 = .ok (.iload_n 3, 1) := by decide +kernel
theorem dL_law_781 : decode cL_law 781 = .ok (.iconst 2, 1) := by decide +kernel
theorem dL_law_782 : decode cL_law 782 = .ok (.iadd, 1) := by decide +kernel
theorem dL_law_783 : decode cL_law 783 = .ok (.iaload, 1) := by decide +kernel
theorem dL_law_784 : decode cL_law 784 = .ok (.invokevirtual 87, 3) := by decide +kernel
theorem dL_law_787 : decode cL_law 787 = .ok (.if_icmp .eq 862, 3) := by decide +kernel
theorem dL_law_790 : decode cL_law 790 = .ok (.iconst 0, 1) := by decide +kernel
theorem dL_law_791 : decode cL_law 791 = .ok (.ireturn, 1) := by decide +kernel
theorem dL_law_792 : decode cL_law 792 = .ok (.aload_n 1, 1) := by decide +kernel
theorem dL_law_793 : decode cL_law 793 = .ok (.aload_n 0, 1) := by decide +kernel
theorem dL_law_794 : decode cL_law 794 = .ok (.iload_n 3, 1) := by decide +kernel
theorem dL_law_795 : decode cL_law 795 = .ok (.iconst 1, 1) := by decide +kernel
theorem dL_law_796 : decode cL_law 796 = .ok (.iadd, 1) := by decide +kernel
theorem dL_law_797 : decode cL_law 797 = .ok (.iaload, 1) := by decide +kernel
theorem dL_law_798 : decode cL_law 798 = .ok (.invokevirtual 88, 3) := by decide +kernel
theorem dL_law_801 : decode cL_law 801 = .ok (.aload_n 2, 1) := by decide +kernel
theorem dL_law_802 : decode cL_law 802 = .ok (.aload_n 0, 1) := by decide +kernel
theorem dL_law_803 : decode cL_law 803 = .ok (.iload_n 3, 1) := by decide +kernel
theorem dL_law_804 : decode cL_law 804 = .ok (.iconst 1, 1) := by decide +kernel
theorem dL_law_805 : decode cL_law 805 = .ok (.iadd, 1) := by decide +kernel
theorem dL_law_806 : decode cL_law 806 = .ok (.iaload, 1) := by decide +kernel
theorem dL_law_807 : decode cL_law 807 = .ok (.invokevirtual 91, 3) := by decide +kernel
theorem dL_law_810 : decode cL_law 810 = .ok (.if_icmp .eq 839, 3) := by decide +kernel
theorem dL_law_813 : decode cL_law 813 = .ok (.iconst 0, 1) := by decide +kernel
theorem dL_law_814 : decode cL_law 814 = .ok (.ireturn, 1) := by decide +kernel
theorem dL_law_815 : decode cL_law 815 = .ok (.aload_n 1, 1) := by decide +kernel
theorem dL_law_816 : decode cL_law 816 = .ok (.aload_n 0, 1) := by decide +kernel
theorem dL_law_817 : decode cL_law 817 = .ok (.iload_n 3, 1) := by decide +kernel
theorem dL_law_818 : decode cL_law 818 = .ok (.iconst 1, 1) := by decide +kernel
theorem dL_law_819 : decode cL_law 819 = .ok (.iadd, 1) := by decide +kernel
theorem dL_law_820 : decode cL_law 820 = .ok (.iaload, 1) := by decide +kernel
theorem dL_law_821 : decode cL_law 821 = .ok (.invokevirtual 92, 3) := by decide +kernel
theorem dL_law_824 : decode cL_law 824 = .ok (.aload_n 2, 1) := by decide +kernel
theorem dL_law_825 : decode cL_law 825 = .ok (.aload_n 0, 1) := by decide +kernel
theorem dL_law_826 : decode cL_law 826 = .ok (.iload_n 3, 1) := by decide +kernel
theorem dL_law_827 : decode cL_law 827 = .ok (.iconst 1, 1) := by decide +kernel
theorem dL_law_828 : decode cL_law 828 = .ok (.iadd, 1) := by decide +kernel
theorem dL_law_829 : decode cL_law 829 = .ok (.iaload, 1) := by decide +kernel
theorem dL_law_830 : decode cL_law 830 = .ok (.invokevirtual 95, 3) := by decide +kernel
theorem dL_law_833 : decode cL_law 833 = .ok (.if_icmp .eq 816, 3) := by decide +kernel
theorem dL_law_836 : decode cL_law 836 = .ok (.iconst 0, 1) := by decide +kernel
theorem dL_law_837 : decode cL_law 837 = .ok (.ireturn, 1) := by decide +kernel
theorem dL_law_838 : decode cL_law 838 = .ok (.aload_n 1, 1) := by decide +kernel
theorem dL_law_839 : decode cL_law 839 = .ok (.aload_n 0, 1) := by decide +kernel
theorem dL_law_840 : decode cL_law 840 = .ok (.iload_n 3, 1) := by decide +kernel
theorem dL_law_841 : decode cL_law 841 = .ok (.iconst 1, 1) := by decide +kernel
theorem dL_law_842 : decode cL_law 842 = .ok (.iadd, 1) := by decide +kernel
theorem dL_law_843 : decode cL_law 843 = .ok (.iaload, 1) := by decide +kernel
theorem dL_law_844 : decode cL_law 844 = .ok (.aload_n 0, 1) := by decide +kernel
theorem dL_law_845 : decode cL_law 845 = .ok (.iload_n 3, 1) := by decide +kernel
theorem dL_law_846 : decode cL_law 846 = .ok (.iconst 2, 1) := by decide +kernel
theorem dL_law_847 : decode cL_law 847 = .ok (.iadd, 1) := by decide +kernel
theorem dL_law_848 : decode cL_law 848 = .ok (.iaload, 1) := by decide +kernel
theorem dL_law_849 : decode cL_law 849 = .ok (.invokevirtual 96, 3) := by decide +kernel
theorem dL_law_852 : decode cL_law 852 = .ok (.aload_n 2, 1) := by decide +kernel
theorem dL_law_853 : decode cL_law 853 = .ok (.aload_n 0, 1) := by decide +kernel
theorem dL_law_854 : decode cL_law 854 = .ok (.iload_n 3, 1) := by decide +kernel
theorem dL_law_855 : decode cL_law 855 = .ok (.iconst 1, 1) := by decide +kernel
theorem dL_law_856 : decode cL_law 856 = .ok (.iadd, 1) := by decide +kernel
theorem dL_law_857 : decode cL_law 857 = .ok (.iaload, 1) := by decide +kernel
theorem dL_law_858 : decode cL_law 858 = .ok (.aload_n 0, 1) := by decide +kernel
theorem dL_law_859 : decode cL_law 859 = .ok (.iload_n 3, 1) := by decide +kernel
theorem dL_law_860 : decode cL_law 860 = .ok (.iconst 2, 1) := by decide +kernel
theorem dL_law_861 : decode cL_law 861 = .ok (.iadd, 1) := by decide +kernel
theorem dL_law_862 : decode cL_law 862 = .ok (.iaload, 1) := by decide +kernel
theorem dL_law_863 : decode cL_law 863 = .ok (.invokevirtual 99, 3) := by decide +kernel
theorem dL_law_866 : decode cL_law 866 = .ok (.if_icmp .eq 783, 3) := by decide +kernel
theorem dL_law_869 : decode cL_law 869 = .ok (.iconst 0, 1) := by decide +kernel
theorem dL_law_870 : decode cL_law 870 = .ok (.ireturn, 1) := by decide +kernel
theorem dL_law_871 : decode cL_law 871 = .ok (.aload_n 1, 1) := by decide +kernel
theorem dL_law_872 : decode cL_law 872 = .ok (.aload_n 0, 1) := by decide +kernel
theorem dL_law_873 : decode cL_law 873 = .ok (.iload_n 3, 1) := by decide +kernel
theorem dL_law_874 : decode cL_law 874 = .ok (.iconst 1, 1) := by decide +kernel
theorem dL_law_875 : decode cL_law 875 = .ok (.iadd, 1) := by decide +kernel
theorem dL_law_876 : decode cL_law 876 = .ok (.iaload, 1) := by decide +kernel
theorem dL_law_877 : decode cL_law 877 = .ok (.aload_n 0, 1) := by decide +kernel
theorem dL_law_878 : decode cL_law 878 = .ok (.iload_n 3, 1) := by decide +kernel
theorem dL_law_879 : decode cL_law 879 = .ok (.iconst 2, 1) := by decide +kernel
theorem dL_law_880 : decode cL_law 880 = .ok (.iadd, 1) := by decide +kernel
theorem dL_law_881 : decode cL_law 881 = .ok (.iaload, 1) := by decide +kernel
theorem dL_law_882 : decode cL_law 882 = .ok (.aload_n 0, 1) := by decide +kernel
theorem dL_law_883 : decode cL_law 883 = .ok (.iload_n 3, 1) := by decide +kernel
theorem dL_law_884 : decode cL_law 884 = .ok (.iconst 3, 1) := by decide +kernel
theorem dL_law_885 : decode cL_law 885 = .ok (.iadd, 1) := by decide +kernel
theorem dL_law_886 : decode cL_law 886 = .ok (.iaload, 1) := by decide +kernel
theorem dL_law_887 : decode cL_law 887 = .ok (.invokevirtual 100, 3) := by decide +kernel
theorem dL_law_890 : decode cL_law 890 = .ok (.aload_n 2, 1) := by decide +kernel
theorem dL_law_891 : decode cL_law 891 = .ok (.aload_n 0, 1) := by decide +kernel
theorem dL_law_892 : decode cL_law 892 = .ok (.iload_n 3, 1) := by decide +kernel
theorem dL_law_893 : decode cL_law 893 = .ok (.iconst 1, 1) := by decide +kernel
theorem dL_law_894 : decode cL_law 894 = .ok (.iadd, 1) := by decide +kernel
theorem dL_law_895 : decode cL_law 895 = .ok (.iaload, 1) := by decide +kernel
theorem dL_law_896 : decode cL_law 896 = .ok (.aload_n 0, 1) := by decide +kernel
theorem dL_law_897 : decode cL_law 897 = .ok (.iload_n 3, 1) := by decide +kernel
theorem dL_law_898 : decode cL_law 898 = .ok (.iconst 2, 1) := by decide +kernel
theorem dL_law_899 : decode cL_law 899 = .ok (.iadd, 1) := by decide +kernel
theorem dL_law_900 : decode cL_law 900 = .ok (.iaload, 1) := by decide +kernel
theorem dL_law_901 : decode cL_law 901 = .ok (.aload_n 0, 1) := by decide +kernel
theorem dL_law_902 : decode cL_law 902 = .ok (.iload_n 3, 1) := by decide +kernel
theorem dL_law_903 : decode cL_law 903 = .ok (.iconst 3, 1) := by decide +kernel
theorem dL_law_904 : decode cL_law 904 = .ok (.iadd, 1) := by decide +kernel
theorem dL_law_905 : decode cL_law 905 = .ok (.iaload, 1) := by decide +kernel
theorem dL_law_906 : decode cL_law 906 = .ok (.invokevirtual 103, 3) := by decide +kernel
theorem dL_law_909 : decode cL_law 909 = .ok (.if_icmp .eq 740, 3) := by decide +kernel
theorem dL_law_912 : decode cL_law 912 = .ok (.iconst 0, 1) := by decide +kernel
theorem dL_law_913 : decode cL_law 913 = .ok (.ireturn, 1) := by decide +kernel
theorem dL_law_914 : decode cL_law 914 = .ok (.aload_n 1, 1) := by decide +kernel
theorem dL_law_915 : decode cL_law 915 = .ok (.aload_n 0, 1) := by decide +kernel
theorem dL_law_916 : decode cL_law 916 = .ok (.iload_n 3, 1) := by decide +kernel
theorem dL_law_917 : decode cL_law 917 = .ok (.iconst 1, 1) := by decide +kernel
theorem dL_law_918 : decode cL_law 918 = .ok (.iadd, 1) := by decide +kernel
theorem dL_law_919 : decode cL_law 919 = .ok (.iaload, 1) := by decide +kernel
theorem dL_law_920 : decode cL_law 920 = .ok (.aload_n 0, 1) := by decide +kernel
theorem dL_law_921 : decode cL_law 921 = .ok (.iload_n 3, 1) := by decide +kernel
theorem dL_law_922 : decode cL_law 922 = .ok (.iconst 2, 1) := by decide +kernel
theorem dL_law_923 : decode cL_law 923 = .ok (.iadd, 1) := by decide +kernel
theorem dL_law_924 : decode cL_law 924 = .ok (.iaload, 1) := by decide +kernel
theorem dL_law_925 : decode cL_law 925 = .ok (.aload_n 0, 1) := by decide +kernel
theorem dL_law_926 : decode cL_law 926 = .ok (.iload_n 3, 1) := by decide +kernel
theorem dL_law_927 : decode cL_law 927 = .ok (.iconst 3, 1) := by decide +kernel
theorem dL_law_928 : decode cL_law 928 = .ok (.iadd, 1) := by decide +kernel
theorem dL_law_929 : decode cL_law 929 = .ok (.iaload, 1) := by decide +kernel
theorem dL_law_930 : decode cL_law 930 = .ok (.invokevirtual 104, 3) := by decide +kernel
theorem dL_law_933 : decode cL_law 933 = .ok (.aload_n 2, 1) := by decide +kernel
theorem dL_law_934 : decode cL_law 934 = .ok (.aload_n 0, 1) := by decide +kernel
theorem dL_law_935 : decode cL_law 935 = .ok (.iload_n 3, 1) := by decide +kernel
theorem dL_law_936 : decode cL_law 936 = .ok (.iconst 1, 1) := by decide +kernel
theorem dL_law_937 : decode cL_law 937 = .ok (.iadd, 1) := by decide +kernel
theorem dL_law_938 : decode cL_law 938 = .ok (.iaload, 1) := by decide +kernel
theorem dL_law_939 : decode cL_law 939 = .ok (.aload_n 0, 1) := by decide +kernel
theorem dL_law_940 : decode cL_law 940 = .ok (.iload_n 3, 1) := by decide +kernel
theorem dL_law_941 : decode cL_law 941 = .ok (.iconst 2, 1) := by decide +kernel
theorem dL_law_942 : decode cL_law 942 = .ok (.iadd, 1) := by decide +kernel
theorem dL_law_943 : decode cL_law 943 = .ok (.iaload, 1) := by decide +kernel
theorem dL_law_944 : decode cL_law 944 = .ok (.aload_n 0, 1) := by decide +kernel
theorem dL_law_945 : decode cL_law 945 = .ok (.iload_n 3, 1) := by decide +kernel
theorem dL_law_946 : decode cL_law 946 = .ok (.iconst 3, 1) := by decide +kernel
theorem dL_law_947 : decode cL_law 947 = .ok (.iadd, 1) := by decide +kernel
theorem dL_law_948 : decode cL_law 948 = .ok (.iaload, 1) := by decide +kernel
theorem dL_law_949 : decode cL_law 949 = .ok (.invokevirtual 107, 3) := by decide +kernel
theorem dL_law_952 : decode cL_law 952 = .ok (.if_icmp .eq 697, 3) := by decide +kernel
theorem dL_law_955 : decode cL_law 955 = .ok (.iconst 0, 1) := by decide +kernel
theorem dL_law_956 : decode cL_law 956 = .ok (.ireturn, 1) := by decide +kernel
theorem dL_law_957 : decode cL_law 957 = .ok (.aload_n 1, 1) := by decide +kernel
theorem dL_law_958 : decode cL_law 958 = .ok (.aload_n 0, 1) := by decide +kernel
theorem dL_law_959 : decode cL_law 959 = .ok (.iload_n 3, 1) := by decide +kernel
theorem dL_law_960 : decode cL_law 960 = .ok (.iconst 1, 1) := by decide +kernel
theorem dL_law_961 : decode cL_law 961 = .ok (.iadd, 1) := by decide +kernel
theorem dL_law_962 : decode cL_law 962 = .ok (.iaload, 1) := by decide +kernel
theorem dL_law_963 : decode cL_law 963 = .ok (.invokevirtual 108, 3) := by decide +kernel
theorem dL_law_966 : decode cL_law 966 = .ok (.aload_n 2, 1) := by decide +kernel
theorem dL_law_967 : decode cL_law 967 = .ok (.aload_n 0, 1) := by decide +kernel
theorem dL_law_968 : decode cL_law 968 = .ok (.iload_n 3, 1) := by decide +kernel
theorem dL_law_969 : decode cL_law 969 = .ok (.iconst 1, 1) := by decide +kernel
theorem dL_law_970 : decode cL_law 970 = .ok (.iadd, 1) := by decide +kernel
theorem dL_law_971 : decode cL_law 971 = .ok (.iaload, 1) := by decide +kernel
theorem dL_law_972 : decode cL_law 972 = .ok (.invokevirtual 111, 3) := by decide +kernel
theorem dL_law_975 : decode cL_law 975 = .ok (.if_icmp .eq 674, 3) := by decide +kernel
theorem dL_law_978 : decode cL_law 978 = .ok (.iconst 0, 1) := by decide +kernel
theorem dL_law_979 : decode cL_law 979 = .ok (.ireturn, 1) := by decide +kernel
theorem dL_law_980 : decode cL_law 980 = .ok (.aload_n 1, 1) := by decide +kernel
theorem dL_law_981 : decode cL_law 981 = .ok (.aload_n 0, 1) := by decide +kernel
theorem dL_law_982 : decode cL_law 982 = .ok (.iload_n 3, 1) := by decide +kernel
theorem dL_law_983 : decode cL_law 983 = .ok (.iconst 1, 1) := by decide +kernel
theorem dL_law_984 : decode cL_law 984 = .ok (.iadd, 1) := by decide +kernel
theorem dL_law_985 : decode cL_law 985 = .ok (.iaload, 1) := by decide +kernel
theorem dL_law_986 : decode cL_law 986 = .ok (.invokevirtual 112, 3) := by decide +kernel
theorem dL_law_989 : decode cL_law 989 = .ok (.aload_n 2, 1) := by decide +kernel
theorem dL_law_990 : decode cL_law 990 = .ok (.aload_n 0, 1) := by decide +kernel
theorem dL_law_991 : decode cL_law 991 = .ok (.iload_n 3, 1) := by decide +kernel
theorem dL_law_992 : decode cL_law 992 = .ok (.iconst 1, 1) := by decide +kernel
theorem dL_law_993 : decode cL_law 993 = .ok (.iadd, 1) := by decide +kernel
theorem dL_law_994 : decode cL_law 994 = .ok (.iaload, 1) := by decide +kernel
theorem dL_law_995 : decode cL_law 995 = .ok (.invokevirtual 115, 3) := by decide +kernel
theorem dL_law_998 : decode cL_law 998 = .ok (.if_icmp .eq 651, 3) := by decide +kernel
theorem dL_law_1001 : decode cL_law 1001 = .ok (.iconst 0, 1) := by decide +kernel
theorem dL_law_1002 : decode cL_law 1002 = .ok (.ireturn, 1) := by decide +kernel
theorem dL_law_1003 : decode cL_law 1003 = .ok (.aload_n 1, 1) := by decide +kernel
theorem dL_law_1004 : decode cL_law 1004 = .ok (.aload_n 0, 1) := by decide +kernel
theorem dL_law_1005 : decode cL_law 1005 = .ok (.iload_n 3, 1) := by decide +kernel
theorem dL_law_1006 : decode cL_law 1006 = .ok (.iconst 1, 1) := by decide +kernel
theorem dL_law_1007 : decode cL_law 1007 = .ok (.iadd, 1) := by decide +kernel
theorem dL_law_1008 : decode cL_law 1008 = .ok (.iaload, 1) := by decide +kernel
theorem dL_law_1009 : decode cL_law 1009 = .ok (.invokevirtual 116, 3) := by decide +kernel
theorem dL_law_1012 : decode cL_law 1012 = .ok (.aload_n 2, 1) := by decide +kernel
theorem dL_law_1013 : decode cL_law 1013 = .ok (.aload_n 0, 1) := by decide +kernel
theorem dL_law_1014 : decode cL_law 1014 = .ok (.iload_n 3, 1) := by decide +kernel
theorem dL_law_1015 : decode cL_law 1015 = .ok (.iconst 1, 1) := by decide +kernel
theorem dL_law_1016 : decode cL_law 1016 = .ok (.iadd, 1) := by decide +kernel
theorem dL_law_1017 : decode cL_law 1017 = .ok (.iaload, 1) := by decide +kernel
theorem dL_law_1018 : decode cL_law 1018 = .ok (.invokevirtual 119, 3) := by decide +kernel
theorem dL_law_1021 : decode cL_law 1021 = .ok (.if_icmp .eq 628, 3) := by decide +kernel
theorem dL_law_1024 : decode cL_law 1024 = .ok (.iconst 0, 1) := by decide +kernel
theorem dL_law_1025 : decode cL_law 1025 = .ok (.ireturn, 1) := by decide +kernel
theorem dL_law_1026 : decode cL_law 1026 = .ok (.aload_n 1, 1) := by decide +kernel
theorem dL_law_1027 : decode cL_law 1027 = .ok (.aload_n 0, 1) := by decide +kernel
theorem dL_law_1028 : decode cL_law 1028 = .ok (.iload_n 3, 1) := by decide +kernel
theorem dL_law_1029 : decode cL_law 1029 = .ok (.iconst 1, 1) := by decide +kernel
theorem dL_law_1030 : decode cL_law 1030 = .ok (.iadd, 1) := by decide +kernel
theorem dL_law_1031 : decode cL_law 1031 = .ok (.iaload, 1) := by decide +kernel
theorem dL_law_1032 : decode cL_law 1032 = .ok (.invokevirtual 120, 3) := by decide +kernel
theorem dL_law_1035 : decode cL_law 1035 = .ok (.aload_n 2, 1) := by decide +kernel
theorem dL_law_1036 : decode cL_law 1036 = .ok (.aload_n 0, 1) := by decide +kernel
theorem dL_law_1037 : decode cL_law 1037 = .ok (.iload_n 3, 1) := by decide +kernel
theorem dL_law_1038 : decode cL_law 1038 = .ok (.iconst 1, 1) := by decide +kernel
theorem dL_law_1039 : decode cL_law 1039 = .ok (.iadd, 1) := by decide +kernel
theorem dL_law_1040 : decode cL_law 1040 = .ok (.iaload, 1) := by decide +kernel
theorem dL_law_1041 : decode cL_law 1041 = .ok (.invokevirtual 123, 3) := by decide +kernel
theorem dL_law_1044 : decode cL_law 1044 = .ok (.if_icmp .eq 605, 3) := by decide +kernel
theorem dL_law_1047 : decode cL_law 1047 = .ok (.iconst 0, 1) := by decide +kernel
theorem dL_law_1048 : decode cL_law 1048 = .ok (.ireturn, 1) := by decide +kernel
theorem dL_law_1049 : decode cL_law 1049 = .ok (.aload_n 1, 1) := by decide +kernel
theorem dL_law_1050 : decode cL_law 1050 = .ok (.invokevirtual 124, 3) := by decide +kernel
theorem dL_law_1053 : decode cL_law 1053 = .ok (.aload_n 2, 1) := by decide +kernel
theorem dL_law_1054 : decode cL_law 1054 = .ok (.invokevirtual 128, 3) := by decide +kernel
theorem dL_law_1057 : decode cL_law 1057 = .ok (.if_icmp .eq 592, 3) := by decide +kernel
theorem dL_law_1060 : decode cL_law 1060 = .ok (.iconst 0, 1) := by decide +kernel
theorem dL_law_1061 : decode cL_law 1061 = .ok (.ireturn, 1) := by decide +kernel
theorem dL_law_1062 : decode cL_law 1062 = .ok (.aload_n 1, 1) := by decide +kernel
theorem dL_law_1063 : decode cL_law 1063 = .ok (.aload_n 0, 1) := by decide +kernel
theorem dL_law_1064 : decode cL_law 1064 = .ok (.iload_n 3, 1) := by decide +kernel
theorem dL_law_1065 : decode cL_law 1065 = .ok (.iconst 1, 1) := by decide +kernel
theorem dL_law_1066 : decode cL_law 1066 = .ok (.iadd, 1) := by decide +kernel
theorem dL_law_1067 : decode cL_law 1067 = .ok (.iaload, 1) := by decide +kernel
theorem dL_law_1068 : decode cL_law 1068 = .ok (.invokevirtual 129, 3) := by decide +kernel
theorem dL_law_1071 : decode cL_law 1071 = .ok (.aload_n 2, 1) := by decide +kernel
theorem dL_law_1072 : decode cL_law 1072 = .ok (.aload_n 0, 1) := by decide +kernel
theorem dL_law_1073 : decode cL_law 1073 = .ok (.iload_n 3, 1) := by decide +kernel
theorem dL_law_1074 : decode cL_law 1074 = .ok (.iconst 1, 1) := by decide +kernel
theorem dL_law_1075 : decode cL_law 1075 = .ok (.iadd, 1) := by decide +kernel
theorem dL_law_1076 : decode cL_law 1076 = .ok (.iaload, 1) := by decide +kernel
theorem dL_law_1077 : decode cL_law 1077 = .ok (.invokevirtual 132, 3) := by decide +kernel
theorem dL_law_1080 : decode cL_law 1080 = .ok (.if_icmp .eq 569, 3) := by decide +kernel
theorem dL_law_1083 : decode cL_law 1083 = .ok (.iconst 0, 1) := by decide +kernel
theorem dL_law_1084 : decode cL_law 1084 = .ok (.ireturn, 1) := by decide +kernel
theorem dL_law_1085 : decode cL_law 1085 = .ok (.aload_n 1, 1) := by decide +kernel
theorem dL_law_1086 : decode cL_law 1086 = .ok (.aload_n 0, 1) := by decide +kernel
theorem dL_law_1087 : decode cL_law 1087 = .ok (.iload_n 3, 1) := by decide +kernel
theorem dL_law_1088 : decode cL_law 1088 = .ok (.iconst 1, 1) := by decide +kernel
theorem dL_law_1089 : decode cL_law 1089 = .ok (.iadd, 1) := by decide +kernel
theorem dL_law_1090 : decode cL_law 1090 = .ok (.iaload, 1) := by decide +kernel
theorem dL_law_1091 : decode cL_law 1091 = .ok (.invokevirtual 133, 3) := by decide +kernel
theorem dL_law_1094 : decode cL_law 1094 = .ok (.aload_n 2, 1) := by decide +kernel
theorem dL_law_1095 : decode cL_law 1095 = .ok (.aload_n 0, 1) := by decide +kernel
theorem dL_law_1096 : decode cL_law 1096 = .ok (.iload_n 3, 1) := by decide +kernel
theorem dL_law_1097 : decode cL_law 1097 = .ok (.iconst 1, 1) := by decide +kernel
theorem dL_law_1098 : decode cL_law 1098 = .ok (.iadd, 1) := by decide +kernel
theorem dL_law_1099 : decode cL_law 1099 = .ok (.iaload, 1) := by decide +kernel
theorem dL_law_1100 : decode cL_law 1100 = .ok (.invokevirtual 136, 3) := by decide +kernel
theorem dL_law_1103 : decode cL_law 1103 = .ok (.if_icmp .eq 546, 3) := by decide +kernel
theorem dL_law_1106 : decode cL_law 1106 = .ok (.iconst 0, 1) := by decide +kernel
theorem dL_law_1107 : decode cL_law 1107 = .ok (.ireturn, 1) := by decide +kernel
theorem dL_law_1108 : decode cL_law 1108 = .ok (.aload_n 1, 1) := by decide +kernel
theorem dL_law_1109 : decode cL_law 1109 = .ok (.aload_n 0, 1) := by decide +kernel
theorem dL_law_1110 : decode cL_law 1110 = .ok (.iload_n 3, 1) := by decide +kernel
theorem dL_law_1111 : decode cL_law 1111 = .ok (.iconst 1, 1) := by decide +kernel
theorem dL_law_1112 : decode cL_law 1112 = .ok (.iadd, 1) := by decide +kernel
theorem dL_law_1113 : decode cL_law 1113 = .ok (.iaload, 1) := by decide +kernel
theorem dL_law_1114 : decode cL_law 1114 = .ok (.invokevirtual 137, 3) := by decide +kernel
theorem dL_law_1117 : decode cL_law 1117 = .ok (.aload_n 2, 1) := by decide +kernel
theorem dL_law_1118 : decode cL_law 1118 = .ok (.aload_n 0, 1) := by decide +kernel
theorem dL_law_1119 : decode cL_law 1119 = .ok (.iload_n 3, 1) := by decide +kernel
theorem dL_law_1120 : decode cL_law 1120 = .ok (.iconst 1, 1) := by decide +kernel
theorem dL_law_1121 : decode cL_law 1121 = .ok (.iadd, 1) := by decide +kernel
theorem dL_law_1122 : decode cL_law 1122 = .ok (.iaload, 1) := by decide +kernel
theorem dL_law_1123 : decode cL_law 1123 = .ok (.invokevirtual 140, 3) := by decide +kernel
theorem dL_law_1126 : decode cL_law 1126 = .ok (.if_icmp .eq 523, 3) := by decide +kernel
theorem dL_law_1129 : decode cL_law 1129 = .ok (.iconst 0, 1) := by decide +kernel
theorem dL_law_1130 : decode cL_law 1130 = .ok (.ireturn, 1) := by decide +kernel
theorem dL_law_1131 : decode cL_law 1131 = .ok (.aload_n 1, 1) := by decide +kernel
theorem dL_law_1132 : decode cL_law 1132 = .ok (.aload_n 0, 1) := by decide +kernel
theorem dL_law_1133 : decode cL_law 1133 = .ok (.iload_n 3, 1) := by decide +kernel
theorem dL_law_1134 : decode cL_law 1134 = .ok (.iconst 1, 1) := by decide +kernel
theorem dL_law_1135 : decode cL_law 1135 = .ok (.iadd, 1) := by decide +kernel
theorem dL_law_1136 : decode cL_law 1136 = .ok (.iaload, 1) := by decide +kernel
theorem dL_law_1137 : decode cL_law 1137 = .ok (.aload_n 0, 1) := by decide +kernel
theorem dL_law_1138 : decode cL_law 1138 = .ok (.iload_n 3, 1) := by decide +kernel
theorem dL_law_1139 : decode cL_law 1139 = .ok (.iconst 2, 1) := by decide +kernel
theorem dL_law_1140 : decode cL_law 1140 = .ok (.iadd, 1) := by decide +kernel
theorem dL_law_1141 : decode cL_law 1141 = .ok (.iaload, 1) := by decide +kernel
theorem dL_law_1142 : decode cL_law 1142 = .ok (.invokevirtual 141, 3) := by decide +kernel
theorem dL_law_1145 : decode cL_law 1145 = .ok (.aload_n 2, 1) := by decide +kernel
theorem dL_law_1146 : decode cL_law 1146 = .ok (.aload_n 0, 1) := by decide +kernel
theorem dL_law_1147 : decode cL_law 1147 = .ok (.iload_n 3, 1) := by decide +kernel
theorem dL_law_1148 : decode cL_law 1148 = .ok (.iconst 1, 1) := by decide +kernel
theorem dL_law_1149 : decode cL_law 1149 = .ok (.iadd, 1) := by decide +kernel
theorem dL_law_1150 : decode cL_law 1150 = .ok (.iaload, 1) := by decide +kernel
theorem dL_law_1151 : decode cL_law 1151 = .ok (.aload_n 0, 1) := by decide +kernel
theorem dL_law_1152 : decode cL_law 1152 = .ok (.iload_n 3, 1) := by decide +kernel
theorem dL_law_1153 : decode cL_law 1153 = .ok (.iconst 2, 1) := by decide +kernel
theorem dL_law_1154 : decode cL_law 1154 = .ok (.iadd, 1) := by decide +kernel
theorem dL_law_1155 : decode cL_law 1155 = .ok (.iaload, 1) := by decide +kernel
theorem dL_law_1156 : decode cL_law 1156 = .ok (.invokevirtual 144, 3) := by decide +kernel
theorem dL_law_1159 : decode cL_law 1159 = .ok (.if_icmp .eq 490, 3) := by decide +kernel
theorem dL_law_1162 : decode cL_law 1162 = .ok (.iconst 0, 1) := by decide +kernel
theorem dL_law_1163 : decode cL_law 1163 = .ok (.ireturn, 1) := by decide +kernel
theorem dL_law_1164 : decode cL_law 1164 = .ok (.aload_n 1, 1) := by decide +kernel
theorem dL_law_1165 : decode cL_law 1165 = .ok (.aload_n 0, 1) := by decide +kernel
theorem dL_law_1166 : decode cL_law 1166 = .ok (.iload_n 3, 1) := by decide +kernel
theorem dL_law_1167 : decode cL_law 1167 = .ok (.iconst 1, 1) := by decide +kernel
theorem dL_law_1168 : decode cL_law 1168 = .ok (.iadd, 1) := by decide +kernel
theorem dL_law_1169 : decode cL_law 1169 = .ok (.iaload, 1) := by decide +kernel
theorem dL_law_1170 : decode cL_law 1170 = .ok (.invokevirtual 145, 3) := by decide +kernel
theorem dL_law_1173 : decode cL_law 1173 = .ok (.aload_n 2, 1) := by decide +kernel
theorem dL_law_1174 : decode cL_law 1174 = .ok (.aload_n 0, 1) := by decide +kernel
theorem dL_law_1175 : decode cL_law 1175 = .ok (.iload_n 3, 1) := by decide +kernel
theorem dL_law_1176 : decode cL_law 1176 = .ok (.iconst 1, 1) := by decide +kernel
theorem dL_law_1177 : decode cL_law 1177 = .ok (.iadd, 1) := by decide +kernel
theorem dL_law_1178 : decode cL_law 1178 = .ok (.iaload, 1) := by decide +kernel
theorem dL_law_1179 : decode cL_law 1179 = .ok (.invokevirtual 148, 3) := by decide +kernel
theorem dL_law_1182 : decode cL_law 1182 = .ok (.if_icmp .eq 467, 3) := by decide +kernel
theorem dL_law_1185 : decode cL_law 1185 = .ok (.iconst 0, 1) := by decide +kernel
theorem dL_law_1186 : decode cL_law 1186 = .ok (.ireturn, 1) := by decide +kernel
theorem dL_law_1187 : decode cL_law 1187 = .ok (.aload_n 1, 1) := by decide +kernel
theorem dL_law_1188 : decode cL_law 1188 = .ok (.aload_n 0, 1) := by decide +kernel
theorem dL_law_1189 : decode cL_law 1189 = .ok (.iload_n 3, 1) := by decide +kernel
theorem dL_law_1190 : decode cL_law 1190 = .ok (.iconst 1, 1) := by decide +kernel
theorem dL_law_1191 : decode cL_law 1191 = .ok (.iadd, 1) := by decide +kernel
theorem dL_law_1192 : decode cL_law 1192 = .ok (.iaload, 1) := by decide +kernel
theorem dL_law_1193 : decode cL_law 1193 = .ok (.aload_n 0, 1) := by decide +kernel
theorem dL_law_1194 : decode cL_law 1194 = .ok (.iload_n 3, 1) := by decide +kernel
theorem dL_law_1195 : decode cL_law 1195 = .ok (.iconst 2, 1) := by decide +kernel
theorem dL_law_1196 : decode cL_law 1196 = .ok (.iadd, 1) := by decide +kernel
theorem dL_law_1197 : decode cL_law 1197 = .ok (.iaload, 1) := by decide +kernel
theorem dL_law_1198 : decode cL_law 1198 = .ok (.invokevirtual 149, 3) := by decide +kernel
theorem dL_law_1201 : decode cL_law 1201 = .ok (.aload_n 2, 1) := by decide +kernel
theorem dL_law_1202 : decode cL_law 1202 = .ok (.aload_n 0, 1) := by decide +kernel
theorem dL_law_1203 : decode cL_law 1203 = .ok (.iload_n 3, 1) := by decide +kernel
theorem dL_law_1204 : decode cL_law 1204 = .ok (.iconst 1, 1) := by decide +kernel
theorem dL_law_1205 : decode cL_law 1205 = .ok (.iadd, 1) := by decide +kernel
theorem dL_law_1206 : decode cL_law 1206 = .ok (.iaload, 1) := by decide +kernel
theorem dL_law_1207 : decode cL_law 1207 = .ok (.aload_n 0, 1) := by decide +kernel
theorem dL_law_1208 : decode cL_law 1208 = .ok (.iload_n 3, 1) := by decide +kernel
theorem dL_law_1209 : decode cL_law 1209 = .ok (.iconst 2, 1) := by decide +kernel
theorem dL_law_1210 : decode cL_law 1210 = .ok (.iadd, 1) := by decide +kernel
theorem dL_law_1211 : decode cL_law 1211 = .ok (.iaload, 1) := by decide +kernel
theorem dL_law_1212 : decode cL_law 1212 = .ok (.invokevirtual 153, 3) := by decide +kernel
theorem dL_law_1215 : decode cL_law 1215 = .ok (.lcmp, 1) := by decide +kernel
theorem dL_law_1216 : decode cL_law 1216 = .ok (.ifCond .eq 433, 3) := by decide +kernel
theorem dL_law_1219 : decode cL_law 1219 = .ok (.iconst 0, 1) := by decide +kernel
theorem dL_law_1220 : decode cL_law 1220 = .ok (.ireturn, 1) := by decide +kernel
theorem dL_law_1221 : decode cL_law 1221 = .ok (.aload_n 1, 1) := by decide +kernel
theorem dL_law_1222 : decode cL_law 1222 = .ok (.aload_n 0, 1) := by decide +kernel
theorem dL_law_1223 : decode cL_law 1223 = .ok (.iload_n 3, 1) := by decide +kernel
theorem dL_law_1224 : decode cL_law 1224 = .ok (.iconst 1, 1) := by decide +kernel
theorem dL_law_1225 : decode cL_law 1225 = .ok (.iadd, 1) := by decide +kernel
theorem dL_law_1226 : decode cL_law 1226 = .ok (.iaload, 1) := by decide +kernel
theorem dL_law_1227 : decode cL_law 1227 = .ok (.invokevirtual 154, 3) := by decide +kernel
theorem dL_law_1230 : decode cL_law 1230 = .ok (.aload_n 2, 1) := by decide +kernel
theorem dL_law_1231 : decode cL_law 1231 = .ok (.aload_n 0, 1) := by decide +kernel
theorem dL_law_1232 : decode cL_law 1232 = .ok (.iload_n 3, 1) := by decide +kernel
theorem dL_law_1233 : decode cL_law 1233 = .ok (.iconst 1, 1) := by decide +kernel
theorem dL_law_1234 : decode cL_law 1234 = .ok (.iadd, 1) := by decide +kernel
theorem dL_law_1235 : decode cL_law 1235 = .ok (.iaload, 1) := by decide +kernel
theorem dL_law_1236 : decode cL_law 1236 = .ok (.invokevirtual 157, 3) := by decide +kernel
theorem dL_law_1239 : decode cL_law 1239 = .ok (.if_icmp .eq 410, 3) := by decide +kernel
theorem dL_law_1242 : decode cL_law 1242 = .ok (.iconst 0, 1) := by decide +kernel
theorem dL_law_1243 : decode cL_law 1243 = .ok (.ireturn, 1) := by decide +kernel
theorem dL_law_1244 : decode cL_law 1244 = .ok (.aload_n 1, 1) := by decide +kernel
theorem dL_law_1245 : decode cL_law 1245 = .ok (.aload_n 0, 1) := by decide +kernel
theorem dL_law_1246 : decode cL_law 1246 = .ok (.iload_n 3, 1) := by decide +kernel
theorem dL_law_1247 : decode cL_law 1247 = .ok (.iconst 1, 1) := by decide +kernel
theorem dL_law_1248 : decode cL_law 1248 = .ok (.iadd, 1) := by decide +kernel
theorem dL_law_1249 : decode cL_law 1249 = .ok (.iaload, 1) := by decide +kernel
theorem dL_law_1250 : decode cL_law 1250 = .ok (.aload_n 0, 1) := by decide +kernel
theorem dL_law_1251 : decode cL_law 1251 = .ok (.iload_n 3, 1) := by decide +kernel
theorem dL_law_1252 : decode cL_law 1252 = .ok (.iconst 2, 1) := by decide +kernel
theorem dL_law_1253 : decode cL_law 1253 = .ok (.iadd, 1) := by decide +kernel
theorem dL_law_1254 : decode cL_law 1254 = .ok (.iaload, 1) := by decide +kernel
theorem dL_law_1255 : decode cL_law 1255 = .ok (.invokevirtual 158, 3) := by decide +kernel
theorem dL_law_1258 : decode cL_law 1258 = .ok (.aload_n 2, 1) := by decide +kernel
theorem dL_law_1259 : decode cL_law 1259 = .ok (.aload_n 0, 1) := by decide +kernel
theorem dL_law_1260 : decode cL_law 1260 = .ok (.iload_n 3, 1) := by decide +kernel
theorem dL_law_1261 : decode cL_law 1261 = .ok (.iconst 1, 1) := by decide +kernel
theorem dL_law_1262 : decode cL_law 1262 = .ok (.iadd, 1) := by decide +kernel
theorem dL_law_1263 : decode cL_law 1263 = .ok (.iaload, 1) := by decide +kernel
theorem dL_law_1264 : decode cL_law 1264 = .ok (.aload_n 0, 1) := by decide +kernel
theorem dL_law_1265 : decode cL_law 1265 = .ok (.iload_n 3, 1) := by decide +kernel
theorem dL_law_1266 : decode cL_law 1266 = .ok (.iconst 2, 1) := by decide +kernel
theorem dL_law_1267 : decode cL_law 1267 = .ok (.iadd, 1) := by decide +kernel
theorem dL_law_1268 : decode cL_law 1268 = .ok (.iaload, 1) := by decide +kernel
theorem dL_law_1269 : decode cL_law 1269 = .ok (.invokevirtual 161, 3) := by decide +kernel
theorem dL_law_1272 : decode cL_law 1272 = .ok (.if_icmp .eq 377, 3) := by decide +kernel
theorem dL_law_1275 : decode cL_law 1275 = .ok (.iconst 0, 1) := by decide +kernel
theorem dL_law_1276 : decode cL_law 1276 = .ok (.ireturn, 1) := by decide +kernel
theorem dL_law_1277 : decode cL_law 1277 = .ok (.aload_n 1, 1) := by decide +kernel
theorem dL_law_1278 : decode cL_law 1278 = .ok (.invokevirtual 162, 3) := by decide +kernel
theorem dL_law_1281 : decode cL_law 1281 = .ok (.aload_n 2, 1) := by decide +kernel
theorem dL_law_1282 : decode cL_law 1282 = .ok (.invokevirtual 165, 3) := by decide +kernel
theorem dL_law_1285 : decode cL_law 1285 = .ok (.if_icmp .eq 364, 3) := by decide +kernel
theorem dL_law_1288 : decode cL_law 1288 = .ok (.iconst 0, 1) := by decide +kernel
theorem dL_law_1289 : decode cL_law 1289 = .ok (.ireturn, 1) := by decide +kernel
theorem dL_law_1290 : decode cL_law 1290 = .ok (.aload_n 1, 1) := by decide +kernel
theorem dL_law_1291 : decode cL_law 1291 = .ok (.invokevirtual 166, 3) := by decide +kernel
theorem dL_law_1294 : decode cL_law 1294 = .ok (.aload_n 2, 1) := by decide +kernel
theorem dL_law_1295 : decode cL_law 1295 = .ok (.invokevirtual 169, 3) := by decide +kernel
theorem dL_law_1298 : decode cL_law 1298 = .ok (.if_icmp .eq 351, 3) := by decide +kernel
theorem dL_law_1301 : decode cL_law 1301 = .ok (.iconst 0, 1) := by decide +kernel
theorem dL_law_1302 : decode cL_law 1302 = .ok (.ireturn, 1) := by decide +kernel
theorem dL_law_1303 : decode cL_law 1303 = .ok (.aload_n 1, 1) := by decide +kernel
theorem dL_law_1304 : decode cL_law 1304 = .ok (.aload_n 0, 1) := by decide +kernel
theorem dL_law_1305 : decode cL_law 1305 = .ok (.iload_n 3, 1) := by decide +kernel
theorem dL_law_1306 : decode cL_law 1306 = .ok (.iconst 1, 1) := by decide +kernel
theorem dL_law_1307 : decode cL_law 1307 = .ok (.iadd, 1) := by decide +kernel
theorem dL_law_1308 : decode cL_law 1308 = .ok (.iaload, 1) := by decide +kernel
theorem dL_law_1309 : decode cL_law 1309 = .ok (.aload_n 0, 1) := by decide +kernel
theorem dL_law_1310 : decode cL_law 1310 = .ok (.iload_n 3, 1) := by decide +kernel
theorem dL_law_1311 : decode cL_law 1311 = .ok (.iconst 2, 1) := by decide +kernel
theorem dL_law_1312 : decode cL_law 1312 = .ok (.iadd, 1) := by decide +kernel
theorem dL_law_1313 : decode cL_law 1313 = .ok (.iaload, 1) := by decide +kernel
theorem dL_law_1314 : decode cL_law 1314 = .ok (.invokevirtual 170, 3) := by decide +kernel
theorem dL_law_1317 : decode cL_law 1317 = .ok (.aload_n 2, 1) := by decide +kernel
theorem dL_law_1318 : decode cL_law 1318 = .ok (.aload_n 0, 1) := by decide +kernel
theorem dL_law_1319 : decode cL_law 1319 = .ok (.iload_n 3, 1) := by decide +kernel
theorem dL_law_1320 : decode cL_law 1320 = .ok (.iconst 1, 1) := by decide +kernel
theorem dL_law_1321 : decode cL_law 1321 = .ok (.iadd, 1) := by decide +kernel
theorem dL_law_1322 : decode cL_law 1322 = .ok (.iaload, 1) := by decide +kernel
theorem dL_law_1323 : decode cL_law 1323 = .ok (.aload_n 0, 1) := by decide +kernel
theorem dL_law_1324 : decode cL_law 1324 = .ok (.iload_n 3, 1) := by decide +kernel
theorem dL_law_1325 : decode cL_law 1325 = .ok (.iconst 2, 1) := by decide +kernel
theorem dL_law_1326 : decode cL_law 1326 = .ok (.iadd, 1) := by decide +kernel
theorem dL_law_1327 : decode cL_law 1327 = .ok (.iaload, 1) := by decide +kernel
theorem dL_law_1328 : decode cL_law 1328 = .ok (.invokevirtual 173, 3) := by decide +kernel
theorem dL_law_1331 : decode cL_law 1331 = .ok (.if_icmp .eq 318, 3) := by decide +kernel
theorem dL_law_1334 : decode cL_law 1334 = .ok (.iconst 0, 1) := by decide +kernel
theorem dL_law_1335 : decode cL_law 1335 = .ok (.ireturn, 1) := by decide +kernel
theorem dL_law_1336 : decode cL_law 1336 = .ok (.aload_n 1, 1) := by decide +kernel
theorem dL_law_1337 : decode cL_law 1337 = .ok (.aload_n 0, 1) := by decide +kernel
theorem dL_law_1338 : decode cL_law 1338 = .ok (.iload_n 3, 1) := by decide +kernel
theorem dL_law_1339 : decode cL_law 1339 = .ok (.iconst 1, 1) := by decide +kernel
theorem dL_law_1340 : decode cL_law 1340 = .ok (.iadd, 1) := by decide +kernel
theorem dL_law_1341 : decode cL_law 1341 = .ok (.iaload, 1) := by decide +kernel
theorem dL_law_1342 : decode cL_law 1342 = .ok (.aload_n 0, 1) := by decide +kernel
theorem dL_law_1343 : decode cL_law 1343 = .ok (.iload_n 3, 1) := by decide +kernel
theorem dL_law_1344 : decode cL_law 1344 = .ok (.iconst 2, 1) := by decide +kernel
theorem dL_law_1345 : decode cL_law 1345 = .ok (.iadd, 1) := by decide +kernel
theorem dL_law_1346 : decode cL_law 1346 = .ok (.iaload, 1) := by decide +kernel
theorem dL_law_1347 : decode cL_law 1347 = .ok (.invokevirtual 174, 3) := by decide +kernel
theorem dL_law_1350 : decode cL_law 1350 = .ok (.aload_n 2, 1) := by decide +kernel
theorem dL_law_1351 : decode cL_law 1351 = .ok (.aload_n 0, 1) := by decide +kernel
theorem dL_law_1352 : decode cL_law 1352 = .ok (.iload_n 3, 1) := by decide +kernel
theorem dL_law_1353 : decode cL_law 1353 = .ok (.iconst 1, 1) := by decide +kernel
theorem dL_law_1354 : decode cL_law 1354 = .ok (.iadd, 1) := by decide +kernel
theorem dL_law_1355 : decode cL_law 1355 = .ok (.iaload, 1) := by decide +kernel
theorem dL_law_1356 : decode cL_law 1356 = .ok (.aload_n 0, 1) := by decide +kernel
theorem dL_law_1357 : decode cL_law 1357 = .ok (.iload_n 3, 1) := by decide +kernel
theorem dL_law_1358 : decode cL_law 1358 = .ok (.iconst 2, 1) := by decide +kernel
theorem dL_law_1359 : decode cL_law 1359 = .ok (.iadd, 1) := by decide +kernel
theorem dL_law_1360 : decode cL_law 1360 = .ok (.iaload, 1) := by decide +kernel
theorem dL_law_1361 : decode cL_law 1361 = .ok (.invokevirtual 177, 3) := by decide +kernel
theorem dL_law_1364 : decode cL_law 1364 = .ok (.if_icmp .eq 285, 3) := by decide +kernel
theorem dL_law_1367 : decode cL_law 1367 = .ok (.iconst 0, 1) := by decide +kernel
theorem dL_law_1368 : decode cL_law 1368 = .ok (.ireturn, 1) := by decide +kernel
theorem dL_law_1369 : decode cL_law 1369 = .ok (.aload_n 1, 1) := by decide +kernel
theorem dL_law_1370 : decode cL_law 1370 = .ok (.aload_n 0, 1) := by decide +kernel
theorem dL_law_1371 : decode cL_law 1371 = .ok (.iload_n 3, 1) := by decide +kernel
theorem dL_law_1372 : decode cL_law 1372 = .ok (.iconst 1, 1) := by decide +kernel
theorem dL_law_1373 : decode cL_law 1373 = .ok (.iadd, 1) := by decide +kernel
theorem dL_law_1374 : decode cL_law 1374 = .ok (.iaload, 1) := by decide +kernel
theorem dL_law_1375 : decode cL_law 1375 = .ok (.aload_n 0, 1) := by decide +kernel
theorem dL_law_1376 : decode cL_law 1376 = .ok (.iload_n 3, 1) := by decide +kernel
theorem dL_law_1377 : decode cL_law 1377 = .ok (.iconst 2, 1) := by decide +kernel
theorem dL_law_1378 : decode cL_law 1378 = .ok (.iadd, 1) := by decide +kernel
theorem dL_law_1379 : decode cL_law 1379 = .ok (.iaload, 1) := by decide +kernel
theorem dL_law_1380 : decode cL_law 1380 = .ok (.aload_n 0, 1) := by decide +kernel
theorem dL_law_1381 : decode cL_law 1381 = .ok (.iload_n 3, 1) := by decide +kernel
theorem dL_law_1382 : decode cL_law 1382 = .ok (.iconst 3, 1) := by decide +kernel
theorem dL_law_1383 : decode cL_law 1383 = .ok (.iadd, 1) := by decide +kernel
theorem dL_law_1384 : decode cL_law 1384 = .ok (.iaload, 1) := by decide +kernel
theorem dL_law_1385 : decode cL_law 1385 = .ok (.invokevirtual 178, 3) := by decide +kernel
theorem dL_law_1388 : decode cL_law 1388 = .ok (.aload_n 2, 1) := by decide +kernel
theorem dL_law_1389 : decode cL_law 1389 = .ok (.aload_n 0, 1) := by decide +kernel
theorem dL_law_1390 : decode cL_law 1390 = .ok (.iload_n 3, 1) := by decide +kernel
theorem dL_law_1391 : decode cL_law 1391 = .ok (.iconst 1, 1) := by decide +kernel
theorem dL_law_1392 : decode cL_law 1392 = .ok (.iadd, 1) := by decide +kernel
theorem dL_law_1393 : decode cL_law 1393 = .ok (.iaload, 1) := by decide +kernel
theorem dL_law_1394 : decode cL_law 1394 = .ok (.aload_n 0, 1) := by decide +kernel
theorem dL_law_1395 : decode cL_law 1395 = .ok (.iload_n 3, 1) := by decide +kernel
theorem dL_law_1396 : decode cL_law 1396 = .ok (.iconst 2, 1) := by decide +kernel
theorem dL_law_1397 : decode cL_law 1397 = .ok (.iadd, 1) := by decide +kernel
theorem dL_law_1398 : decode cL_law 1398 = .ok (.iaload, 1) := by decide +kernel
theorem dL_law_1399 : decode cL_law 1399 = .ok (.aload_n 0, 1) := by decide +kernel
theorem dL_law_1400 : decode cL_law 1400 = .ok (.iload_n 3, 1) := by decide +kernel
theorem dL_law_1401 : decode cL_law 1401 = .ok (.iconst 3, 1) := by decide +kernel
theorem dL_law_1402 : decode cL_law 1402 = .ok (.iadd, 1) := by decide +kernel
theorem dL_law_1403 : decode cL_law 1403 = .ok (.iaload, 1) := by decide +kernel
theorem dL_law_1404 : decode cL_law 1404 = .ok (.invokevirtual 181, 3) := by decide +kernel
theorem dL_law_1407 : decode cL_law 1407 = .ok (.if_icmp .eq 242, 3) := by decide +kernel
theorem dL_law_1410 : decode cL_law 1410 = .ok (.iconst 0, 1) := by decide +kernel
theorem dL_law_1411 : decode cL_law 1411 = .ok (.ireturn, 1) := by decide +kernel
theorem dL_law_1412 : decode cL_law 1412 = .ok (.aload_n 1, 1) := by decide +kernel
theorem dL_law_1413 : decode cL_law 1413 = .ok (.aload_n 0, 1) := by decide +kernel
theorem dL_law_1414 : decode cL_law 1414 = .ok (.iload_n 3, 1) := by decide +kernel
theorem dL_law_1415 : decode cL_law 1415 = .ok (.iconst 1, 1) := by decide +kernel
theorem dL_law_1416 : decode cL_law 1416 = .ok (.iadd, 1) := by decide +kernel
theorem dL_law_1417 : decode cL_law 1417 = .ok (.iaload, 1) := by decide +kernel
theorem dL_law_1418 : decode cL_law 1418 = .ok (.aload_n 0, 1) := by decide +kernel
theorem dL_law_1419 : decode cL_law 1419 = .ok (.iload_n 3, 1) := by decide +kernel
theorem dL_law_1420 : decode cL_law 1420 = .ok (.iconst 2, 1) := by decide +kernel
theorem dL_law_1421 : decode cL_law 1421 = .ok (.iadd, 1) := by decide +kernel
theorem dL_law_1422 : decode cL_law 1422 = .ok (.iaload, 1) := by decide +kernel
theorem dL_law_1423 : decode cL_law 1423 = .ok (.aload_n 0, 1) := by decide +kernel
theorem dL_law_1424 : decode cL_law 1424 = .ok (.iload_n 3, 1) := by decide +kernel
theorem dL_law_1425 : decode cL_law 1425 = .ok (.iconst 3, 1) := by decide +kernel
theorem dL_law_1426 : decode cL_law 1426 = .ok (.iadd, 1) := by decide +kernel
theorem dL_law_1427 : decode cL_law 1427 = .ok (.iaload, 1) := by decide +kernel
theorem dL_law_1428 : decode cL_law 1428 = .ok (.invokevirtual 182, 3) := by decide +kernel
theorem dL_law_1431 : decode cL_law 1431 = .ok (.aload_n 2, 1) := by decide +kernel
theorem dL_law_1432 : decode cL_law 1432 = .ok (.aload_n 0, 1) := by decide +kernel
theorem dL_law_1433 : decode cL_law 1433 = .ok (.iload_n 3, 1) := by decide +kernel
theorem dL_law_1434 : decode cL_law 1434 = .ok (.iconst 1, 1) := by decide +kernel
theorem dL_law_1435 : decode cL_law 1435 = .ok (.iadd, 1) := by decide +kernel
theorem dL_law_1436 : decode cL_law 1436 = .ok (.iaload, 1) := by decide +kernel
theorem dL_law_1437 : decode cL_law 1437 = .ok (.aload_n 0, 1) := by decide +kernel
theorem dL_law_1438 : decode cL_law 1438 = .ok (.iload_n 3, 1) := by decide +kernel
theorem dL_law_1439 : decode cL_law 1439 = .ok (.iconst 2, 1) := by decide +kernel
theorem dL_law_1440 : decode cL_law 1440 = .ok (.iadd, 1) := by decide +kernel
theorem dL_law_1441 : decode cL_law 1441 = .ok (.iaload, 1) := by decide +kernel
theorem dL_law_1442 : decode cL_law 1442 = .ok (.aload_n 0, 1) := by decide +kernel
theorem dL_law_1443 : decode cL_law 1443 = .ok (.iload_n 3, 1) := by decide +kernel
theorem dL_law_1444 : decode cL_law 1444 = .ok (.iconst 3, 1) := by decide +kernel
theorem dL_law_1445 : decode cL_law 1445 = .ok (.iadd, 1) := by decide +kernel
theorem dL_law_1446 : decode cL_law 1446 = .ok (.iaload, 1) := by decide +kernel
theorem dL_law_1447 : decode cL_law 1447 = .ok (.invokevirtual 185, 3) := by decide +kernel
theorem dL_law_1450 : decode cL_law 1450 = .ok (.if_icmp .eq 199, 3) := by decide +kernel
theorem dL_law_1453 : decode cL_law 1453 = .ok (.iconst 0, 1) := by decide +kernel
theorem dL_law_1454 : decode cL_law 1454 = .ok (.ireturn, 1) := by decide +kernel
theorem dL_law_1455 : decode cL_law 1455 = .ok (.aload_n 1, 1) := by decide +kernel
theorem dL_law_1456 : decode cL_law 1456 = .ok (.aload_n 0, 1) := by decide +kernel
theorem dL_law_1457 : decode cL_law 1457 = .ok (.iload_n 3, 1) := by decide +kernel
theorem dL_law_1458 : decode cL_law 1458 = .ok (.iconst 1, 1) := by decide +kernel
theorem dL_law_1459 : decode cL_law 1459 = .ok (.iadd, 1) := by decide +kernel
theorem dL_law_1460 : decode cL_law 1460 = .ok (.iaload, 1) := by decide +kernel
theorem dL_law_1461 : decode cL_law 1461 = .ok (.aload_n 0, 1) := by decide +kernel
theorem dL_law_1462 : decode cL_law 1462 = .ok (.iload_n 3, 1) := by decide +kernel
theorem dL_law_1463 : decode cL_law 1463 = .ok (.iconst 2, 1) := by decide +kernel
theorem dL_law_1464 : decode cL_law 1464 = .ok (.iadd, 1) := by decide +kernel
theorem dL_law_1465 : decode cL_law 1465 = .ok (.iaload, 1) := by decide +kernel
theorem dL_law_1466 : decode cL_law 1466 = .ok (.aload_n 0, 1) := by decide +kernel
theorem dL_law_1467 : decode cL_law 1467 = .ok (.iload_n 3, 1) := by decide +kernel
theorem dL_law_1468 : decode cL_law 1468 = .ok (.iconst 3, 1) := by decide +kernel
theorem dL_law_1469 : decode cL_law 1469 = .ok (.iadd, 1) := by decide +kernel
theorem dL_law_1470 : decode cL_law 1470 = .ok (.iaload, 1) := by decide +kernel
theorem dL_law_1471 : decode cL_law 1471 = .ok (.aload_n 0, 1) := by decide +kernel
theorem dL_law_1472 : decode cL_law 1472 = .ok (.iload_n 3, 1) := by decide +kernel
theorem dL_law_1473 : decode cL_law 1473 = .ok (.iconst 4, 1) := by decide +kernel
theorem dL_law_1474 : decode cL_law 1474 = .ok (.iadd, 1) := by decide +kernel
theorem dL_law_1475 : decode cL_law 1475 = .ok (.iaload, 1) := by decide +kernel
theorem dL_law_1476 : decode cL_law 1476 = .ok (.aload_n 0, 1) := by decide +kernel
theorem dL_law_1477 : decode cL_law 1477 = .ok (.iload_n 3, 1) := by decide +kernel
theorem dL_law_1478 : decode cL_law 1478 = .ok (.iconst 5, 1) := by decide +kernel
theorem dL_law_1479 : decode cL_law 1479 = .ok (.iadd, 1) := by decide +kernel
theorem dL_law_1480 : decode cL_law 1480 = .ok (.iaload, 1) := by decide +kernel
theorem dL_law_1481 : decode cL_law 1481 = .ok (.invokevirtual 186, 3) := by decide +kernel
theorem dL_law_1484 : decode cL_law 1484 = .ok (.aload_n 2, 1) := by decide +kernel
theorem dL_law_1485 : decode cL_law 1485 = .ok (.aload_n 0, 1) := by decide +kernel
theorem dL_law_1486 : decode cL_law 1486 = .ok (.iload_n 3, 1) := by decide +kernel
theorem dL_law_1487 : decode cL_law 1487 = .ok (.iconst 1, 1) := by decide +kernel
theorem dL_law_1488 : decode cL_law 1488 = .ok (.iadd, 1) := by decide +kernel
theorem dL_law_1489 : decode cL_law 1489 = .ok (.iaload, 1) := by decide +kernel
theorem dL_law_1490 : decode cL_law 1490 = .ok (.aload_n 0, 1) := by decide +kernel
theorem dL_law_1491 : decode cL_law 1491 = .ok (.iload_n 3, 1) := by decide +kernel
theorem dL_law_1492 : decode cL_law 1492 = .ok (.iconst 2, 1) := by decide +kernel
theorem dL_law_1493 : decode cL_law 1493 = .ok (.iadd, 1) := by decide +kernel
theorem dL_law_1494 : decode cL_law 1494 = .ok (.iaload, 1) := by decide +kernel
theorem dL_law_1495 : decode cL_law 1495 = .ok (.aload_n 0, 1) := by decide +kernel
theorem dL_law_1496 : decode cL_law 1496 = .ok (.iload_n 3, 1) := by decide +kernel
theorem dL_law_1497 : decode cL_law 1497 = .ok (.iconst 3, 1) := by decide +kernel
theorem dL_law_1498 : decode cL_law 1498 = .ok (.iadd, 1) := by decide +kernel
theorem dL_law_1499 : decode cL_law 1499 = .ok (.iaload, 1) := by decide +kernel
theorem dL_law_1500 : decode cL_law 1500 = .ok (.aload_n 0, 1) := by decide +kernel
theorem dL_law_1501 : decode cL_law 1501 = .ok (.iload_n 3, 1) := by decide +kernel
theorem dL_law_1502 : decode cL_law 1502 = .ok (.iconst 4, 1) := by decide +kernel
theorem dL_law_1503 : decode cL_law 1503 = .ok (.iadd, 1) := by decide +kernel
theorem dL_law_1504 : decode cL_law 1504 = .ok (.iaload, 1) := by decide +kernel
theorem dL_law_1505 : decode cL_law 1505 = .ok (.aload_n 0, 1) := by decide +kernel
theorem dL_law_1506 : decode cL_law 1506 = .ok (.iload_n 3, 1) := by decide +kernel
theorem dL_law_1507 : decode cL_law 1507 = .ok (.iconst 5, 1) := by decide +kernel
theorem dL_law_1508 : decode cL_law 1508 = .ok (.iadd, 1) := by decide +kernel
theorem dL_law_1509 : decode cL_law 1509 = .ok (.iaload, 1) := by decide +kernel
theorem dL_law_1510 : decode cL_law 1510 = .ok (.invokevirtual 190, 3) := by decide +kernel
theorem dL_law_1513 : decode cL_law 1513 = .ok (.if_icmp .eq 136, 3) := by decide +kernel
theorem dL_law_1516 : decode cL_law 1516 = .ok (.iconst 0, 1) := by decide +kernel
theorem dL_law_1517 : decode cL_law 1517 = .ok (.ireturn, 1) := by decide +kernel
theorem dL_law_1518 : decode cL_law 1518 = .ok (.aload_n 1, 1) := by decide +kernel
theorem dL_law_1519 : decode cL_law 1519 = .ok (.aload_n 0, 1) := by decide +kernel
theorem dL_law_1520 : decode cL_law 1520 = .ok (.iload_n 3, 1) := by decide +kernel
theorem dL_law_1521 : decode cL_law 1521 = .ok (.iconst 1, 1) := by decide +kernel
theorem dL_law_1522 : decode cL_law 1522 = .ok (.iadd, 1) := by decide +kernel
theorem dL_law_1523 : decode cL_law 1523 = .ok (.iaload, 1) := by decide +kernel
theorem dL_law_1524 : decode cL_law 1524 = .ok (.invokevirtual 191, 3) := by decide +kernel
theorem dL_law_1527 : decode cL_law 1527 = .ok (.aload_n 2, 1) := by decide +kernel
theorem dL_law_1528 : decode cL_law 1528 = .ok (.aload_n 0, 1) := by decide +kernel
theorem dL_law_1529 : decode cL_law 1529 = .ok (.iload_n 3, 1) := by decide +kernel
theorem dL_law_1530 : decode cL_law 1530 = .ok (.iconst 1, 1) := by decide +kernel
theorem dL_law_1531 : decode cL_law 1531 = .ok (.iadd, 1) := by decide +kernel
theorem dL_law_1532 : decode cL_law 1532 = .ok (.iaload, 1) := by decide +kernel
theorem dL_law_1533 : decode cL_law 1533 = .ok (.invokevirtual 194, 3) := by decide +kernel
theorem dL_law_1536 : decode cL_law 1536 = .ok (.if_icmp .eq 113, 3) := by decide +kernel
theorem dL_law_1539 : decode cL_law 1539 = .ok (.iconst 0, 1) := by decide +kernel
theorem dL_law_1540 : decode cL_law 1540 = .ok (.ireturn, 1) := by decide +kernel
theorem dL_law_1541 : decode cL_law 1541 = .ok (.aload_n 1, 1) := by decide +kernel
theorem dL_law_1542 : decode cL_law 1542 = .ok (.aload_n 0, 1) := by decide +kernel
theorem dL_law_1543 : decode cL_law 1543 = .ok (.iload_n 3, 1) := by decide +kernel
theorem dL_law_1544 : decode cL_law 1544 = .ok (.iconst 1, 1) := by decide +kernel
theorem dL_law_1545 : decode cL_law 1545 = .ok (.iadd, 1) := by decide +kernel
theorem dL_law_1546 : decode cL_law 1546 = .ok (.iaload, 1) := by decide +kernel
theorem dL_law_1547 : decode cL_law 1547 = .ok (.invokevirtual 195, 3) := by decide +kernel
theorem dL_law_1550 : decode cL_law 1550 = .ok (.aload_n 2, 1) := by decide +kernel
theorem dL_law_1551 : decode cL_law 1551 = .ok (.aload_n 0, 1) := by decide +kernel
theorem dL_law_1552 : decode cL_law 1552 = .ok (.iload_n 3, 1) := by decide +kernel
theorem dL_law_1553 : decode cL_law 1553 = .ok (.iconst 1, 1) := by decide +kernel
theorem dL_law_1554 : decode cL_law 1554 = .ok (.iadd, 1) := by decide +kernel
theorem dL_law_1555 : decode cL_law 1555 = .ok (.iaload, 1) := by decide +kernel
theorem dL_law_1556 : decode cL_law 1556 = .ok (.invokevirtual 198, 3) := by decide +kernel
theorem dL_law_1559 : decode cL_law 1559 = .ok (.if_icmp .eq 90, 3) := by decide +kernel
theorem dL_law_1562 : decode cL_law 1562 = .ok (.iconst 0, 1) := by decide +kernel
theorem dL_law_1563 : decode cL_law 1563 = .ok (.ireturn, 1) := by decide +kernel
theorem dL_law_1564 : decode cL_law 1564 = .ok (.aload_n 1, 1) := by decide +kernel
theorem dL_law_1565 : decode cL_law 1565 = .ok (.invokevirtual 199, 3) := by decide +kernel
theorem dL_law_1568 : decode cL_law 1568 = .ok (.aload_n 2, 1) := by decide +kernel
theorem dL_law_1569 : decode cL_law 1569 = .ok (.invokevirtual 202, 3) := by decide +kernel
theorem dL_law_1572 : decode cL_law 1572 = .ok (.if_icmp .eq 77, 3) := by decide +kernel
theorem dL_law_1575 : decode cL_law 1575 = .ok (.iconst 0, 1) := by decide +kernel
theorem dL_law_1576 : decode cL_law 1576 = .ok (.ireturn, 1) := by decide +kernel
theorem dL_law_1577 : decode cL_law 1577 = .ok (.aload_n 1, 1) := by decide +kernel
theorem dL_law_1578 : decode cL_law 1578 = .ok (.invokevirtual 203, 3) := by decide +kernel
theorem dL_law_1581 : decode cL_law 1581 = .ok (.aload_n 2, 1) := by decide +kernel
theorem dL_law_1582 : decode cL_law 1582 = .ok (.invokevirtual 206, 3) := by decide +kernel
theorem dL_law_1585 : decode cL_law 1585 = .ok (.if_icmp .eq 64, 3) := by decide +kernel
theorem dL_law_1588 : decode cL_law 1588 = .ok (.iconst 0, 1) := by decide +kernel
theorem dL_law_1589 : decode cL_law 1589 = .ok (.ireturn, 1) := by decide +kernel
theorem dL_law_1590 : decode cL_law 1590 = .ok (.aload_n 1, 1) := by decide +kernel
theorem dL_law_1591 : decode cL_law 1591 = .ok (.invokevirtual 207, 3) := by decide +kernel
theorem dL_law_1594 : decode cL_law 1594 = .ok (.aload_n 2, 1) := by decide +kernel
theorem dL_law_1595 : decode cL_law 1595 = .ok (.invokevirtual 210, 3) := by decide +kernel
theorem dL_law_1598 : decode cL_law 1598 = .ok (.if_icmp .eq 51, 3) := by decide +kernel
theorem dL_law_1601 : decode cL_law 1601 = .ok (.iconst 0, 1) := by decide +kernel
theorem dL_law_1602 : decode cL_law 1602 = .ok (.ireturn, 1) := by decide +kernel
theorem dL_law_1603 : decode cL_law 1603 = .ok (.aload_n 1, 1) := by decide +kernel
theorem dL_law_1604 : decode cL_law 1604 = .ok (.aload_n 0, 1) := by decide +kernel
theorem dL_law_1605 : decode cL_law 1605 = .ok (.iload_n 3, 1) := by decide +kernel
theorem dL_law_1606 : decode cL_law 1606 = .ok (.iconst 1, 1) := by decide +kernel
theorem dL_law_1607 : decode cL_law 1607 = .ok (.iadd, 1) := by decide +kernel
theorem dL_law_1608 : decode cL_law 1608 = .ok (.iaload, 1) := by decide +kernel
theorem dL_law_1609 : decode cL_law 1609 = .ok (.invokevirtual 211, 3) := by decide +kernel
theorem dL_law_1612 : decode cL_law 1612 = .ok (.aload_n 2, 1) := by decide +kernel
theorem dL_law_1613 : decode cL_law 1613 = .ok (.aload_n 0, 1) := by decide +kernel
theorem dL_law_1614 : decode cL_law 1614 = .ok (.iload_n 3, 1) := by decide +kernel
theorem dL_law_1615 : decode cL_law 1615 = .ok (.iconst 1, 1) := by decide +kernel
theorem dL_law_1616 : decode cL_law 1616 = .ok (.iadd, 1) := by decide +kernel
theorem dL_law_1617 : decode cL_law 1617 = .ok (.iaload, 1) := by decide +kernel
theorem dL_law_1618 : decode cL_law 1618 = .ok (.invokevirtual 214, 3) := by decide +kernel
theorem dL_law_1621 : decode cL_law 1621 = .ok (.if_icmp .eq 28, 3) := by decide +kernel
theorem dL_law_1624 : decode cL_law 1624 = .ok (.iconst 0, 1) := by decide +kernel
theorem dL_law_1625 : decode cL_law 1625 = .ok (.ireturn, 1) := by decide +kernel
theorem dL_law_1626 : decode cL_law 1626 = .ok (.aload_n 1, 1) := by decide +kernel
theorem dL_law_1627 : decode cL_law 1627 = .ok (.aload_n 0, 1) := by decide +kernel
theorem dL_law_1628 : decode cL_law 1628 = .ok (.iload_n 3, 1) := by decide +kernel
theorem dL_law_1629 : decode cL_law 1629 = .ok (.iconst 1, 1) := by decide +kernel
theorem dL_law_1630 : decode cL_law 1630 = .ok (.iadd, 1) := by decide +kernel
theorem dL_law_1631 : decode cL_law 1631 = .ok (.iaload, 1) := by decide +kernel
theorem dL_law_1632 : decode cL_law 1632 = .ok (.invokevirtual 215, 3) := by decide +kernel
theorem dL_law_1635 : decode cL_law 1635 = .ok (.aload_n 2, 1) := by decide +kernel
theorem dL_law_1636 : decode cL_law 1636 = .ok (.aload_n 0, 1) := by decide +kernel
theorem dL_law_1637 : decode cL_law 1637 = .ok (.iload_n 3, 1) := by decide +kernel
theorem dL_law_1638 : decode cL_law 1638 = .ok (.iconst 1, 1) := by decide +kernel
theorem dL_law_1639 : decode cL_law 1639 = .ok (.iadd, 1) := by decide +kernel
theorem dL_law_1640 : decode cL_law 1640 = .ok (.iaload, 1) := by decide +kernel
theorem dL_law_1641 : decode cL_law 1641 = .ok (.invokevirtual 218, 3) := by decide +kernel
theorem dL_law_1644 : decode cL_law 1644 = .ok (.if_icmp .eq 5, 3) := by decide +kernel
theorem dL_law_1647 : decode cL_law 1647 = .ok (.iconst 0, 1) := by decide +kernel
theorem dL_law_1648 : decode cL_law 1648 = .ok (.ireturn, 1) := by decide +kernel
theorem dL_law_1649 : decode cL_law 1649 = .ok (.iinc 3 6, 3) := by decide +kernel
theorem dL_law_1652 : decode cL_law 1652 = .ok (.goto (-1634), 3) := by decide +kernel
theorem dL_law_1655 : decode cL_law 1655 = .ok (.iconst 1, 1) := by decide +kernel
theorem dL_law_1656 : decode cL_law 1656 = .ok (.ireturn, 1) := by decide +kernel
end
section
/-- words of nest mates -/
def NB : List Cond := [.methodLinkNest "StarCrew" 28 ⟨"StarCrew$TextReader", "<init>", "()V"⟩ "StarCrew", .methodLinkNest "StarCrew$TextReader" 11 ⟨"StarCrew$Tape", "<init>", "()V"⟩ "StarCrew", .methodLinkNest "StarCrew" 41 ⟨"StarCrew$Walker", "<init>", "()V"⟩ "StarCrew", .methodLinkNest "StarCrew" 56 ⟨"StarCrew$Sheet", "<init>", "()V"⟩ "StarCrew", .methodLinkNest "StarCrew$Sky" 90 ⟨"StarCrew", "stepsBetween", "(II)I"⟩ "StarCrew", .fieldLinkNest "StarCrew$TextReader" 124 "StarCrew" "MOST_SETTING" "[I" "StarCrew"]
def kOwn : String := "StarCrew$TextReader"
/-- the text constants: their pool places and texts -/
def kT : List (Nat × String) := [(35, "crew"), (90, "at"), (112, "steps"), (44, "sign"), (63, "lamp"), (65, "red"), (67, "fixed"), (69, "pole"), (71, "guide"), (73, "old"), (75, "giant"), (96, "life"), (98, "worth"), (77, "dust"), (79, "wishes"), (81, "mend"), (83, "parts")]
def kLen : List Nat := [4, 2, 5, 4, 4, 3, 5, 4, 5, 3, 5, 4, 5, 4, 6, 4, 5]
def kByt : List (List Int32) := [[99, 114, 101, 119], [97, 116], [115, 116, 101, 112, 115], [115, 105, 103, 110], [108, 97, 109, 112], [114, 101, 100], [102, 105, 120, 101, 100], [112, 111, 108, 101], [103, 117, 105, 100, 101], [111, 108, 100], [103, 105, 97, 110, 116], [108, 105, 102, 101], [119, 111, 114, 116, 104], [100, 117, 115, 116], [119, 105, 115, 104, 101, 115], [109, 101, 110, 100], [112, 97, 114, 116, 115]]
theorem NB_warm {s U : State} (hW : s.WarmedH U.vm) (h : ∀ w ∈ NB, va_Nw w s) : ∀ w ∈ NB, va_Nw w U := by
  intro w hw
  have hs := h w hw
  simp only [NB, List.mem_cons, List.not_mem_nil, or_false] at hw
  rcases hw with rfl | rfl | rfl | rfl | rfl | rfl
  · exact va_Nw.warmM hW hs
  · exact va_Nw.warmM hW hs
  · exact va_Nw.warmM hW hs
  · exact va_Nw.warmM hW hs
  · exact va_Nw.warmM hW hs
  · exact va_Nw.warmF hW hs
theorem NB_same {u U : State} (hv : u.vm = U.vm) (h : ∀ w ∈ NB, va_Nw w u) : ∀ w ∈ NB, va_Nw w U := by
  intro w hw
  have hs := h w hw
  simp only [NB, List.mem_cons, List.not_mem_nil, or_false] at hw
  rcases hw with rfl | rfl | rfl | rfl | rfl | rfl <;> exact va_Nw.same rfl hv hs
end
section
/-! MY LAYER OVER THE KIT: one world of cells at consecutive addresses from a base on; a judgement SA (a method's activation at a pc runs to its return) that packs all the machine's premises -/
/-- the words that every method may use -/
def TB : List Cond := lw_tbl.filter goodWord
theorem TB_in {w : Cond} (h : w ∈ lw_tbl) (hg : goodWord w = true) : w ∈ TB := List.mem_filter.mpr ⟨h, hg⟩
/-- launch, numbers of classes, array classes (int, byte, char, Sheet), base, old arrays, the table's place, the places of texts and of their bytes -/
abbrev EV : Type := Launch × va_G × (ClassId × ClassId × ClassId × ClassId) × Nat × List (Nat × Nat × (Nat → Int32)) × Nat × (Nat → Nat) × (Nat → Nat)
abbrev eL (E : EV) : Launch := E.1
abbrev eD (E : EV) : va_G := E.2.1
abbrev eI (E : EV) : ClassId := E.2.2.1.1
abbrev eY (E : EV) : ClassId := E.2.2.1.2.1
abbrev eC (E : EV) : ClassId := E.2.2.1.2.2.1
abbrev eH (E : EV) : ClassId := E.2.2.1.2.2.2
abbrev eB (E : EV) : Nat := E.2.2.2.1
abbrev eO (E : EV) : List (Nat × Nat × (Nat → Int32)) := E.2.2.2.2.1
abbrev eM (E : EV) : Nat := E.2.2.2.2.2.1
abbrev eK (E : EV) : Nat → Nat := E.2.2.2.2.2.2.1
abbrev eV (E : EV) : Nat → Nat := E.2.2.2.2.2.2.2
def eA (E : EV) : Nat → Prop := fun q => eB E ≤ q
def eT (E : EV) : List (ClassId × FieldType) := [(eI E, .int), (eY E, .byte), (eC E, .char), (eH E, .object "StarCrew$Sheet")]
/-- the world of a list of cells from a base on -/
def hw (b : Nat) (h : List va_E) : va_W := h.zipIdx.map (fun x => (b + x.2, x.1))
theorem hw_get (b : Nat) (h : List va_E) (k : Nat) : (hw b h)[k]? = (h[k]?).map (fun e => (b + k, e)) := by
  simp only [hw, List.getElem?_map, List.getElem?_zipIdx]
  cases h[k]? with
  | none => rfl
  | some e => simp
theorem hw_at {b : Nat} {h : List va_E} {k : Nat} {e : va_E} (hk : h[k]? = some e) : (hw b h)[k]? = some (b + k, e) := by rw [hw_get, hk]; rfl
theorem hw_set (b : Nat) (h : List va_E) (k : Nat) (e : va_E) : (hw b h).set k (b + k, e) = hw b (h.set k e) := by
  apply List.ext_getElem?
  intro i
  rw [hw_get]
  by_cases hi : k = i
  · subst hi
    by_cases hl : k < h.length
    · rw [List.getElem?_set_self (by simpa [hw] using hl), List.getElem?_set_self hl]; rfl
    · rw [List.getElem?_eq_none (by simp [hw]; omega), List.getElem?_eq_none (by simp; omega)]; rfl
  · rw [List.getElem?_set_ne hi, List.getElem?_set_ne hi, hw_get]
theorem hw_push (b : Nat) (h : List va_E) (e : va_E) : hw b h ++ [(b + h.length, e)] = hw b (h ++ [e]) := by
  simp [hw, List.zipIdx_append]
theorem hw_D (E : EV) (h : List va_E) : va_D (eA E) (hw (eB E) h) := by
  have key : ∀ (k : Nat) (q : Nat × va_E), (hw (eB E) h)[k]? = some q → q.1 = eB E + k := by
    intro k q hq
    rw [hw_get] at hq
    cases hk : h[k]? with
    | none => rw [hk] at hq; cases hq
    | some e => rw [hk] at hq; cases hq; rfl
  refine ⟨fun i j p q hi hj hpq => ?_, fun k q hk => ?_⟩
  · have h1 := key i p hi
    have h2 := key j q hj
    omega
  · show eB E ≤ q.1
    have h1 := key k q hk
    omega
/-- what is old and stays: the table of settings, arrays that are only read, the text constants -/
def strOk (E : EV) (s : State) : Prop := vk_S kT.length kLen kByt (eK E) (eV E) (eA E) s s.heap ∧ ∀ (i : Nat) (q : Nat × String), kT[i]? = some q → vk_R kOwn q.1 q.2 (eK E i) s
def OldOk (E : EV) (s : State) : Prop := va_Z "StarCrew" "MOST_SETTING" "[I" (.ref (eM E)) (eA E) s s.heap ∧ (∀ q ∈ eO E, va_T .int q.1 q.2.1 (fun j => .int (q.2.2 j)) (eA E) s s.heap) ∧ strOk E s ∧ va_Z "java/lang/String" "COMPACT_STRINGS" "Z" (.int 1) (eA E) s s.heap ∧ va_Zq "jdk/internal/util/Preconditions" "SIOOBE_FORMATTER" "Ljava/util/function/BiFunction;" (eA E) s s.heap
theorem OldOk.at {E : EV} {s U : State} {H : Heap} {locs : List Loc} (h : OldOk E s) (hW : s.WarmedH U.vm) (hS : va_S (eA E) s.heap H locs) (hU : U.heap = H) : OldOk E U := by
  subst hU
  obtain ⟨h1, h2, ⟨h3, h4⟩, h5, h6⟩ := h
  exact ⟨(h1.kept hS.2.1).moved hW.alike, fun q hq => ((h2 q hq).kept hS.2.1).moved hW.alike, ⟨(h3.kept hS.2.1).moved hW.alike, fun i q hq => (h4 i q hq).warm hW⟩, (h5.kept hS.2.1).moved hW.alike, (h6.kept hS.2.1).moved hW.alike⟩
theorem OldOk.blind {E : EV} {U U1 : State} (h : OldOk E U) (hv : U1.vm = U.vm) (hh : U1.heap = U.heap) : OldOk E U1 := by
  have hA : U.vm.Alike U1.vm := by rw [hv]; exact Vm.Alike.refl _
  obtain ⟨h1, h2, ⟨h3, h4⟩, h5, h6⟩ := h
  unfold OldOk strOk
  rw [hh]
  exact ⟨h1.moved hA, fun q hq => (h2 q hq).moved hA, ⟨h3.moved hA, fun i q hq => (h4 i q hq).same hv⟩, h5.moved hA, h6.moved hA⟩
/-- a method: name, code, places of its locals, what it gives, frames and words that it needs below it -/
abbrev MI : Type := MethodName × ByteArray × Nat × Option FieldType × Nat × Nat
def wU (M : MI) : List Cond := .code M.1 M.2.1 M.2.2.1 M.2.2.2.1 :: TB
def rmOf (M : MI) (mc ms : Nat) : Room := { frames := M.2.2.2.2.1, cells := mc, slots := ms, locals := M.2.2.2.2.2 }
/-- all that holds of an activation of M -/
def CX (E : EV) (M : MI) (p : Program) (R : Room) (s : State) (m : MethodId) (args : Array Value) (meth : Method) (c : Code) : Prop :=
  p.tables.exec = Jvm.exec ∧ c.code = M.2.1 ∧ c.maxLocals = M.2.2.1 ∧ meth.sig.returnType = M.2.2.2.1 ∧ meth.locks = false ∧ s.vm.findClass M.1.cls = some m.cls ∧ (∀ w ∈ TB, w.before args s = true) ∧ (∀ w ∈ NB, va_Nw w s) ∧ va_K (eD E) vwCl (eT E) s ∧ OldOk E s ∧ va_AO "StarCrew$Sheet" s ∧ M.2.2.2.2.1 ≤ R.frames ∧ M.2.2.2.2.2 ≤ R.locals ∧ (M.1.name = "<init>" → meth.name = "<init>") ∧ eB E ≤ s.heap.size
section CXF
variable {E : EV} {M : MI} {p : Program} {R : Room} {s : State} {m : MethodId} {args : Array Value} {meth : Method} {c : Code}
theorem CX.x (C : CX E M p R s m args meth c) : p.tables.exec = Jvm.exec := C.1
theorem CX.b (C : CX E M p R s m args meth c) : c.code = M.2.1 := C.2.1
theorem CX.ml (C : CX E M p R s m args meth c) : c.maxLocals = M.2.2.1 := C.2.2.1
theorem CX.r (C : CX E M p R s m args meth c) : meth.sig.returnType = M.2.2.2.1 := C.2.2.2.1
theorem CX.lk (C : CX E M p R s m args meth c) : meth.locks = false := C.2.2.2.2.1
theorem CX.o (C : CX E M p R s m args meth c) : s.vm.findClass M.1.cls = some m.cls := C.2.2.2.2.2.1
theorem CX.ts (C : CX E M p R s m args meth c) : ∀ w ∈ TB, w.before args s = true := C.2.2.2.2.2.2.1
theorem CX.nb (C : CX E M p R s m args meth c) : ∀ w ∈ NB, va_Nw w s := C.2.2.2.2.2.2.2.1
theorem CX.K (C : CX E M p R s m args meth c) : va_K (eD E) vwCl (eT E) s := C.2.2.2.2.2.2.2.2.1
theorem CX.old (C : CX E M p R s m args meth c) : OldOk E s := C.2.2.2.2.2.2.2.2.2.1
theorem CX.ao (C : CX E M p R s m args meth c) : va_AO "StarCrew$Sheet" s := C.2.2.2.2.2.2.2.2.2.2.1
theorem CX.fr (C : CX E M p R s m args meth c) : M.2.2.2.2.1 ≤ R.frames := C.2.2.2.2.2.2.2.2.2.2.2.1
theorem CX.lo (C : CX E M p R s m args meth c) : M.2.2.2.2.2 ≤ R.locals := C.2.2.2.2.2.2.2.2.2.2.2.2.1
theorem CX.nm (C : CX E M p R s m args meth c) : M.1.name = "<init>" → meth.name = "<init>" := C.2.2.2.2.2.2.2.2.2.2.2.2.2.1
theorem CX.sz (C : CX E M p R s m args meth c) : eB E ≤ s.heap.size := C.2.2.2.2.2.2.2.2.2.2.2.2.2.2
end CXF
/-- what a method's end gives -/
def QC (E : EV) (z : Bool) (Q : Option Value → List va_E → Prop) : Array Value → State → Outcome → State → Prop := fun _ st o t => ∃ (v : Option Value) (h' : List va_E), o = .returned v ∧ Q v h' ∧ (z = true → t.heap.size = eB E + h'.length) ∧ va_P (eD E) vwCl (hw (eB E) h') t.heap ∧ va_F (eA E) st t
/-- from pc on, with locals lv, stack st, cells h, M runs to its return with Q, making at most mc cells of ms places; y and z: the heap's size is known at the start, at the end -/
def SA (E : EV) (M : MI) (y z : Bool) (mc ms pc : Nat) (lv : List (Nat × Value)) (st : List Value) (h : List va_E) (Q : Option Value → List va_E → Prop) : Prop :=
  ∀ (p : Program) (e : Env) (R : Room) (s : State) (m : MethodId) (args : Array Value) (below : List Frame) (meth : Method) (c : Code), CX E M p R s m args meth c →
  ∀ (H : Heap) (locs : List Loc) (cells slots : Nat) (ls : Array Slot), (y = true → H.size = eB E + h.length) → va_P (eD E) vwCl (hw (eB E) h) H → va_S (eA E) s.heap H locs → lv_has ls M.2.2.1 lv → cells + mc ≤ R.cells → slots + ms ≤ R.slots →
  W p (eL E) e R s m args below meth c H locs cells slots (MQ below (QC E z Q) args s (cells + mc) (slots + ms) (eA E)) (F0 m pc ls st)
theorem eA_new (E : EV) {s : State} (h : eB E ≤ s.heap.size) : ∀ q, s.heap.size ≤ q → eA E q := fun _ hq => Nat.le_trans h hq
/-- what a call wants of the callee's start -/
def PB (E : EV) (y : Bool) (h : List va_E) (U : State) : Prop := (y = true → U.heap.size = eB E + h.length) ∧ va_P (eD E) vwCl (hw (eB E) h) U.heap ∧ va_K (eD E) vwCl (eT E) U ∧ (∀ w ∈ NB, va_Nw w U) ∧ OldOk E U ∧ va_AO "StarCrew$Sheet" U ∧ eB E ≤ U.heap.size
theorem SA.met {E : EV} {M : MI} {y z : Bool} {mc ms : Nat} {av : List Value} {h : List va_E} {Q : Option Value → List va_E → Prop} (hc : SA E M y z mc ms 0 (lv_args 0 av) [] h Q) (hl : (lg_sl av).length ≤ M.2.2.1) (hy : plainName M.1.cls = true) :
    Met (eL E) M.1 (wU M) (rmOf M mc ms) (va_Pc av (PB E y h)) (QC E z Q) mc ms (eA E) := by
  refine Met.ofW (cc := M.2.1) (maxL := M.2.2.1) (ret := M.2.2.2.1) hy rfl ?_
  intro p e s m args below meth c s₁ B hml hv
  obtain ⟨rfl, hz, hP, hK, hN, hO, hAO, hs⟩ := hv
  have hts := atoms_spec (ws := wU M) B.pre
  have C : CX E M p (headSpec (wU M) (rmOf M mc ms)).room s m av.toArray meth c := ⟨B.exec, B.bytes, hml, B.returns, B.notSynchronized, findClass_of_methodNamed B.named, fun w hw => hts w (List.mem_cons_of_mem _ hw), hN, hK, hO, hAO, Nat.le_refl _, Nat.le_refl _, fun hn => ((name_of_methodNamed B.named B.method).1).trans hn, hs⟩
  rw [lg_entry_eq]
  have K := hc p e _ s m av.toArray below meth c C s.heap [] 0 0 _ hz hP va_S.rf (lv_entry av hl) (by rw [Nat.zero_add]; exact Nat.le_refl _) (by rw [Nat.zero_add]; exact Nat.le_refl _)
  rw [Nat.zero_add, Nat.zero_add] at K
  exact K
theorem PB_blind (E : EV) (y : Bool) (h : List va_E) (av : List Value) : FrameBlind (va_Pc av (PB E y h)) := by
  intro a U g mk q
  obtain ⟨q0, q1, q2, q3, q4, q5, q6, q7⟩ := q
  exact ⟨q0, q1, q2, va_K.moved (u := U) (U := U.calling g mk a) (Vm.Alike.refl U.vm) q3, NB_same (u := U) (U := U.calling g mk a) rfl q4, OldOk.blind (U := U) (U1 := U.calling g mk a) q5 rfl rfl, va_AO.moved (u := U) (U := U.calling g mk a) (Vm.Alike.refl U.vm) q6, q7⟩
theorem PB_at {E : EV} {y : Bool} {h : List va_E} {M : MI} {p : Program} {R : Room} {s : State} {m : MethodId} {args : Array Value} {meth : Method} {c : Code} {H : Heap} {locs : List Loc} (C : CX E M p R s m args meth c) (hz : y = true → H.size = eB E + h.length) (hP : va_P (eD E) vwCl (hw (eB E) h) H) (hS : va_S (eA E) s.heap H locs) : ∀ U : State, U.heap = H → s.WarmedH U.vm → PB E y h U := by
  intro U hU hW
  refine ⟨by rw [hU]; exact hz, by rw [hU]; exact hP, va_K.moved hW.alike C.K, NB_warm hW C.nb, C.old.at hW hS hU, C.ao.moved hW.alike, ?_⟩
  rw [hU]
  exact Nat.le_trans C.sz hS.1
theorem wU_good {M N : MI} (hN : Cond.code N.1 N.2.1 N.2.2.1 N.2.2.2.1 ∈ TB) : GoodIn (wU M) (wU N) := by
  intro w hw
  have ht : w ∈ TB := by
    rcases List.mem_cons.mp hw with e | hw
    · rw [e]; exact hN
    · exact hw
  exact ⟨List.mem_cons_of_mem _ ht, good_of_word (List.mem_filter.mp ht).2⟩
theorem TB_good {N : MI} (hN : Cond.code N.1 N.2.1 N.2.2.1 N.2.2.2.1 ∈ TB) : GoodIn TB (wU N) := by
  intro w hw
  have ht : w ∈ TB := by
    rcases List.mem_cons.mp hw with e | hw
    · rw [e]; exact hN
    · exact hw
  exact ⟨ht, good_of_word (List.mem_filter.mp ht).2⟩
section MV
variable {p : Program} {l : Launch} {e : Env} {R : Room} {s : State} {m : MethodId} {args : Array Value} {below : List Frame} {meth : Method} {c : Code} {H : Heap} {locs : List Loc} {cells slots mc ms : Nat} {Q : State → Prop}
/-- behind a call -/
theorem m_back {E : EV} {z : Bool} {K : Option Value → List va_E → Prop} {pc : Nat} {ls : Array Slot} {rest st0 : List Value} {a : Array Value} (hr : va_Run p l e R s m args below meth c H locs cells slots mc ms (F0 m pc ls st0) rest (QC E z K a) (eA E)) (hS : va_S (eA E) s.heap H locs)
    (kk : ∀ (v : Option Value) (h' : List va_E) (H1 : Heap) (locs1 : List Loc), K v h' → (z = true → H1.size = eB E + h'.length) → va_P (eD E) vwCl (hw (eB E) h') H1 → va_S (eA E) s.heap H1 locs1 → W p l e R s m args below meth c H1 locs1 (cells + mc) (slots + ms) Q (F0 m (pc + 3) ls (v.toList ++ rest))) : W p l e R s m args below meth c H locs cells slots Q (F0 m pc ls st0) := by
  intro T hT X
  obtain ⟨v, st₀, t, T', L, h0, X', hL, e1, e2, ⟨v', h', hv, hK, hz, hP, hF⟩, st⟩ := hr T hT X
  cases hv
  obtain ⟨hz1, hk⟩ := hF
  rw [h0] at hz1 hk
  obtain ⟨t2, a1, b1⟩ := kk v h' T'.heap (locs ++ L) hK (by rw [e1]; exact hz) (by rw [e1]; exact hP)
    ⟨Nat.le_trans hS.1 (by rw [e1]; exact hz1), fun q h1 h2 => by rw [e1, hk q (Nat.lt_of_lt_of_le h1 hS.1) h2]; exact hS.2.1 q h1 h2, fun q hq => by
      rcases List.mem_append.mp hq with h | h
      · exact hS.2.2 q h
      · exact hL q h⟩ T' rfl X'
  exact ⟨t2, st t2 a1, b1⟩
end MV
/-- the object that a call is sent to -/
def Rc (E : EV) (h : List va_E) (a : Nat) (C : String) : Prop := (∃ (k ci : Nat) (fs : List Value) (T : u_T) (n : Nat), a = eB E + k ∧ h[k]? = some (.inr (ci, fs)) ∧ vwCl[ci]? = some (C, T, n)) ∨ (C = "java/lang/String" ∧ ∃ i, i < kT.length ∧ a = eK E i)
theorem Rc.cell {E : EV} {h : List va_E} {a : Nat} {C : String} (hr : Rc E h a C) {M : MI} {p : Program} {R : Room} {s : State} {m : MethodId} {args : Array Value} {meth : Method} {c : Code} {H : Heap} {locs : List Loc} (X : CX E M p R s m args meth c) (hP : va_P (eD E) vwCl (hw (eB E) h) H) (hS : va_S (eA E) s.heap H locs) : ∃ cellB : Cell, H[a]? = some cellB ∧ cellB.vm.isStatics = false ∧ s.vm.findClass C = some cellB.cls := by
  rcases hr with ⟨k, ci, fs, T, n, rfl, hk, hc⟩ | ⟨rfl, i, hi, rfl⟩
  · exact va_recv (q := (C, T, n)) X.K hP (ci := ci) (q0 := k) hc (hw_at hk)
  · exact vk_recv X.old.2.2.1.1 hi hS
section SX
variable {E : EV} {M : MI} {y z : Bool} {mc ms pc q : Nat} {lv : List (Nat × Value)} {st : List Value} {h : List va_E} {Q : Option Value → List va_E → Prop}
theorem s_iconst {n : Int} {v : Int32} (hd : decode M.2.1 pc = .ok (.iconst n, 1)) (hq : pc + 1 = q) (hv : Int32.ofInt n = v) (k : SA E M y z mc ms q lv (.int v :: st) h Q) : SA E M y z mc ms pc lv (st) h Q := by
  intro p e R s m args below meth c C H locs cells slots ls hz hP hS hl hcc hss
  subst hq
  exact lv_iconst C.x C.b hd hv (k p e R s m args below meth c C H locs cells slots ls hz hP hS hl hcc hss)
theorem s_bipush {n : Int} {v : Int32} (hd : decode M.2.1 pc = .ok (.bipush n, 2)) (hq : pc + 2 = q) (hv : (Int8.ofInt n).toInt32 = v) (k : SA E M y z mc ms q lv (.int v :: st) h Q) : SA E M y z mc ms pc lv (st) h Q := by
  intro p e R s m args below meth c C H locs cells slots ls hz hP hS hl hcc hss
  subst hq
  exact lv_bipush C.x C.b hd hv (k p e R s m args below meth c C H locs cells slots ls hz hP hS hl hcc hss)
theorem s_sipush {n : Int} {v : Int32} (hd : decode M.2.1 pc = .ok (.sipush n, 3)) (hq : pc + 3 = q) (hv : (Int16.ofInt n).toInt32 = v) (k : SA E M y z mc ms q lv (.int v :: st) h Q) : SA E M y z mc ms pc lv (st) h Q := by
  intro p e R s m args below meth c C H locs cells slots ls hz hP hS hl hcc hss
  subst hq
  exact lv_sipush C.x C.b hd hv (k p e R s m args below meth c C H locs cells slots ls hz hP hS hl hcc hss)
theorem s_lconst {n : Fin 2} {v : Int64} (hd : decode M.2.1 pc = .ok (.lconst n, 1)) (hq : pc + 1 = q) (hv : Int64.ofNat (n : Nat) = v) (k : SA E M y z mc ms q lv (.long v :: st) h Q) : SA E M y z mc ms pc lv (st) h Q := by
  intro p e R s m args below meth c C H locs cells slots ls hz hP hS hl hcc hss
  subst hq
  exact lv_lconst C.x C.b hd hv (k p e R s m args below meth c C H locs cells slots ls hz hP hS hl hcc hss)
theorem s_ldc {i : Nat} {v : Int32} (hd : decode M.2.1 pc = .ok (.ldc i, 2)) (hq : pc + 2 = q) (hw : Cond.constant M.1.cls i v ∈ TB) (k : SA E M y z mc ms q lv (.int v :: st) h Q) : SA E M y z mc ms pc lv (st) h Q := by
  intro p e R s m args below meth c C H locs cells slots ls hz hP hS hl hcc hss
  subst hq
  exact lv_ldc C.x C.b C.o (C.ts _ hw) hd (k p e R s m args below meth c C H locs cells slots ls hz hP hS hl hcc hss)
theorem s_ldcw {i : Nat} {v : Int32} (hd : decode M.2.1 pc = .ok (.ldc_w i, 3)) (hq : pc + 3 = q) (hw : Cond.constant M.1.cls i v ∈ TB) (k : SA E M y z mc ms q lv (.int v :: st) h Q) : SA E M y z mc ms pc lv (st) h Q := by
  intro p e R s m args below meth c C H locs cells slots ls hz hP hS hl hcc hss
  subst hq
  exact lv_ldcw C.x C.b C.o (C.ts _ hw) hd (k p e R s m args below meth c C H locs cells slots ls hz hP hS hl hcc hss)
theorem s_ldc2 {i : Nat} {v : Int64} (hd : decode M.2.1 pc = .ok (.ldc2_w i, 3)) (hq : pc + 3 = q) (hw : Cond.constantLong M.1.cls i v ∈ TB) (k : SA E M y z mc ms q lv (.long v :: st) h Q) : SA E M y z mc ms pc lv (st) h Q := by
  intro p e R s m args below meth c C H locs cells slots ls hz hP hS hl hcc hss
  subst hq
  exact lv_ldc2 C.x C.b C.o (C.ts _ hw) hd (k p e R s m args below meth c C H locs cells slots ls hz hP hS hl hcc hss)
theorem s_ldcS {i j : Nat} {tx : String} (hd : decode M.2.1 pc = .ok (.ldc i, 2)) (hq : pc + 2 = q) (hw : kT[j]? = some (i, tx)) (ho : M.1.cls = kOwn) (k : SA E M y z mc ms q lv (.ref (eK E j) :: st) h Q) : SA E M y z mc ms pc lv (st) h Q := by
  intro p e R s m args below meth c C H locs cells slots ls hz hP hS hl hcc hss
  subst hq
  exact va_ldcS C.x C.b (own := kOwn) (by rw [← ho]; exact C.o) (C.old.2.2.1.2 j _ hw) hd (k p e R s m args below meth c C H locs cells slots ls hz hP hS hl hcc hss)
theorem s_null  (hd : decode M.2.1 pc = .ok (.aconst_null, 1)) (hq : pc + 1 = q)  (k : SA E M y z mc ms q lv (.null :: st) h Q) : SA E M y z mc ms pc lv (st) h Q := by
  intro p e R s m args below meth c C H locs cells slots ls hz hP hS hl hcc hss
  subst hq
  exact lv_null C.x C.b hd (k p e R s m args below meth c C H locs cells slots ls hz hP hS hl hcc hss)
theorem s_iload_n {i : Nat} {f : Fin 4} {x : Int32} (hd : decode M.2.1 pc = .ok (.iload_n f, 1)) (hq : pc + 1 = q) (hi : (f : Nat) = i) (j : Nat) (hj : lv[j]? = some (i, .int x)) (k : SA E M y z mc ms q lv (.int x :: st) h Q) : SA E M y z mc ms pc lv (st) h Q := by
  intro p e R s m args below meth c C H locs cells slots ls hz hP hS hl hcc hss
  subst hq
  exact lv_iload_n C.x C.b hd hi (lv_at hl j hj) (k p e R s m args below meth c C H locs cells slots ls hz hP hS hl hcc hss)
theorem s_iload {i : Nat} {x : Int32} (hd : decode M.2.1 pc = .ok (.iload i, 2)) (hq : pc + 2 = q) (j : Nat) (hj : lv[j]? = some (i, .int x)) (k : SA E M y z mc ms q lv (.int x :: st) h Q) : SA E M y z mc ms pc lv (st) h Q := by
  intro p e R s m args below meth c C H locs cells slots ls hz hP hS hl hcc hss
  subst hq
  exact lv_iload C.x C.b hd (lv_at hl j hj) (k p e R s m args below meth c C H locs cells slots ls hz hP hS hl hcc hss)
theorem s_lload_n {i : Nat} {f : Fin 4} {x : Int64} (hd : decode M.2.1 pc = .ok (.lload_n f, 1)) (hq : pc + 1 = q) (hi : (f : Nat) = i) (j : Nat) (hj : lv[j]? = some (i, .long x)) (k : SA E M y z mc ms q lv (.long x :: st) h Q) : SA E M y z mc ms pc lv (st) h Q := by
  intro p e R s m args below meth c C H locs cells slots ls hz hP hS hl hcc hss
  subst hq
  exact lv_lload_n C.x C.b hd hi (lv_at hl j hj) (k p e R s m args below meth c C H locs cells slots ls hz hP hS hl hcc hss)
theorem s_lload {i : Nat} {x : Int64} (hd : decode M.2.1 pc = .ok (.lload i, 2)) (hq : pc + 2 = q) (j : Nat) (hj : lv[j]? = some (i, .long x)) (k : SA E M y z mc ms q lv (.long x :: st) h Q) : SA E M y z mc ms pc lv (st) h Q := by
  intro p e R s m args below meth c C H locs cells slots ls hz hP hS hl hcc hss
  subst hq
  exact lv_lload C.x C.b hd (lv_at hl j hj) (k p e R s m args below meth c C H locs cells slots ls hz hP hS hl hcc hss)
theorem s_aload_n {i : Nat} {f : Fin 4} {x : Nat} (hd : decode M.2.1 pc = .ok (.aload_n f, 1)) (hq : pc + 1 = q) (hi : (f : Nat) = i) (j : Nat) (hj : lv[j]? = some (i, .ref x)) (k : SA E M y z mc ms q lv (.ref x :: st) h Q) : SA E M y z mc ms pc lv (st) h Q := by
  intro p e R s m args below meth c C H locs cells slots ls hz hP hS hl hcc hss
  subst hq
  exact lv_aload_n C.x C.b hd hi (lv_at hl j hj) (k p e R s m args below meth c C H locs cells slots ls hz hP hS hl hcc hss)
theorem s_aload {i : Nat} {x : Nat} (hd : decode M.2.1 pc = .ok (.aload i, 2)) (hq : pc + 2 = q) (j : Nat) (hj : lv[j]? = some (i, .ref x)) (k : SA E M y z mc ms q lv (.ref x :: st) h Q) : SA E M y z mc ms pc lv (st) h Q := by
  intro p e R s m args below meth c C H locs cells slots ls hz hP hS hl hcc hss
  subst hq
  exact lv_aload C.x C.b hd (lv_at hl j hj) (k p e R s m args below meth c C H locs cells slots ls hz hP hS hl hcc hss)
theorem s_aload_nN {i : Nat} {f : Fin 4} (hd : decode M.2.1 pc = .ok (.aload_n f, 1)) (hq : pc + 1 = q) (hi : (f : Nat) = i) (j : Nat) (hj : lv[j]? = some (i, .null)) (k : SA E M y z mc ms q lv (.null :: st) h Q) : SA E M y z mc ms pc lv (st) h Q := by
  intro p e R s m args below meth c C H locs cells slots ls hz hP hS hl hcc hss
  subst hq
  exact lv_aload_nN C.x C.b hd hi (lv_at hl j hj) (k p e R s m args below meth c C H locs cells slots ls hz hP hS hl hcc hss)
theorem s_aloadN {i : Nat} (hd : decode M.2.1 pc = .ok (.aload i, 2)) (hq : pc + 2 = q) (j : Nat) (hj : lv[j]? = some (i, .null)) (k : SA E M y z mc ms q lv (.null :: st) h Q) : SA E M y z mc ms pc lv (st) h Q := by
  intro p e R s m args below meth c C H locs cells slots ls hz hP hS hl hcc hss
  subst hq
  exact lv_aloadN C.x C.b hd (lv_at hl j hj) (k p e R s m args below meth c C H locs cells slots ls hz hP hS hl hcc hss)
theorem s_istore_n {i : Nat} {f : Fin 4} {x : Int32} {lv' : List (Nat × Value)} (hd : decode M.2.1 pc = .ok (.istore_n f, 1)) (hq : pc + 1 = q) (hi : (f : Nat) = i) (hn : i < M.2.2.1) (hl' : (i, Value.int x) :: lv.filter (fun q => !(q.1 == i) && !(q.1 + 1 == i && q.2.category == 2)) = lv') (k : SA E M y z mc ms q lv' st h Q) : SA E M y z mc ms pc lv (.int x :: st) h Q := by
  intro p e R s m args below meth c C H locs cells slots ls hz hP hS hl hcc hss
  subst hq
  exact lv_istore_n C.x C.b hd hi hl hn hl' (fun ls' hl2 => k p e R s m args below meth c C H locs cells slots ls' hz hP hS hl2 hcc hss)
theorem s_istore {i : Nat} {x : Int32} {lv' : List (Nat × Value)} (hd : decode M.2.1 pc = .ok (.istore i, 2)) (hq : pc + 2 = q) (hn : i < M.2.2.1) (hl' : (i, Value.int x) :: lv.filter (fun q => !(q.1 == i) && !(q.1 + 1 == i && q.2.category == 2)) = lv') (k : SA E M y z mc ms q lv' st h Q) : SA E M y z mc ms pc lv (.int x :: st) h Q := by
  intro p e R s m args below meth c C H locs cells slots ls hz hP hS hl hcc hss
  subst hq
  exact lv_istore C.x C.b hd hl hn hl' (fun ls' hl2 => k p e R s m args below meth c C H locs cells slots ls' hz hP hS hl2 hcc hss)
theorem s_lstore_n {i : Nat} {f : Fin 4} {x : Int64} {lv' : List (Nat × Value)} (hd : decode M.2.1 pc = .ok (.lstore_n f, 1)) (hq : pc + 1 = q) (hi : (f : Nat) = i) (hn : i + 1 < M.2.2.1) (hl' : (i, Value.long x) :: lv.filter (fun q => !(q.1 == i) && (!(q.1 == i + 1) && !(q.1 + 1 == i && q.2.category == 2))) = lv') (k : SA E M y z mc ms q lv' st h Q) : SA E M y z mc ms pc lv (.long x :: st) h Q := by
  intro p e R s m args below meth c C H locs cells slots ls hz hP hS hl hcc hss
  subst hq
  exact lv_lstore_n C.x C.b hd hi hl hn hl' (fun ls' hl2 => k p e R s m args below meth c C H locs cells slots ls' hz hP hS hl2 hcc hss)
theorem s_lstore {i : Nat} {x : Int64} {lv' : List (Nat × Value)} (hd : decode M.2.1 pc = .ok (.lstore i, 2)) (hq : pc + 2 = q) (hn : i + 1 < M.2.2.1) (hl' : (i, Value.long x) :: lv.filter (fun q => !(q.1 == i) && (!(q.1 == i + 1) && !(q.1 + 1 == i && q.2.category == 2))) = lv') (k : SA E M y z mc ms q lv' st h Q) : SA E M y z mc ms pc lv (.long x :: st) h Q := by
  intro p e R s m args below meth c C H locs cells slots ls hz hP hS hl hcc hss
  subst hq
  exact lv_lstore C.x C.b hd hl hn hl' (fun ls' hl2 => k p e R s m args below meth c C H locs cells slots ls' hz hP hS hl2 hcc hss)
theorem s_astore_n {i : Nat} {f : Fin 4} {x : Nat} {lv' : List (Nat × Value)} (hd : decode M.2.1 pc = .ok (.astore_n f, 1)) (hq : pc + 1 = q) (hi : (f : Nat) = i) (hn : i < M.2.2.1) (hl' : (i, Value.ref x) :: lv.filter (fun q => !(q.1 == i) && !(q.1 + 1 == i && q.2.category == 2)) = lv') (k : SA E M y z mc ms q lv' st h Q) : SA E M y z mc ms pc lv (.ref x :: st) h Q := by
  intro p e R s m args below meth c C H locs cells slots ls hz hP hS hl hcc hss
  subst hq
  exact lv_astore_n C.x C.b hd hi hl hn hl' (fun ls' hl2 => k p e R s m args below meth c C H locs cells slots ls' hz hP hS hl2 hcc hss)
theorem s_astore {i : Nat} {x : Nat} {lv' : List (Nat × Value)} (hd : decode M.2.1 pc = .ok (.astore i, 2)) (hq : pc + 2 = q) (hn : i < M.2.2.1) (hl' : (i, Value.ref x) :: lv.filter (fun q => !(q.1 == i) && !(q.1 + 1 == i && q.2.category == 2)) = lv') (k : SA E M y z mc ms q lv' st h Q) : SA E M y z mc ms pc lv (.ref x :: st) h Q := by
  intro p e R s m args below meth c C H locs cells slots ls hz hP hS hl hcc hss
  subst hq
  exact lv_astore C.x C.b hd hl hn hl' (fun ls' hl2 => k p e R s m args below meth c C H locs cells slots ls' hz hP hS hl2 hcc hss)
theorem s_astore_nN {i : Nat} {f : Fin 4} {lv' : List (Nat × Value)} (hd : decode M.2.1 pc = .ok (.astore_n f, 1)) (hq : pc + 1 = q) (hi : (f : Nat) = i) (hn : i < M.2.2.1) (hl' : (i, Value.null) :: lv.filter (fun q => !(q.1 == i) && !(q.1 + 1 == i && q.2.category == 2)) = lv') (k : SA E M y z mc ms q lv' st h Q) : SA E M y z mc ms pc lv (.null :: st) h Q := by
  intro p e R s m args below meth c C H locs cells slots ls hz hP hS hl hcc hss
  subst hq
  exact lv_astore_nN C.x C.b hd hi hl hn hl' (fun ls' hl2 => k p e R s m args below meth c C H locs cells slots ls' hz hP hS hl2 hcc hss)
theorem s_astoreN {i : Nat} {lv' : List (Nat × Value)} (hd : decode M.2.1 pc = .ok (.astore i, 2)) (hq : pc + 2 = q) (hn : i < M.2.2.1) (hl' : (i, Value.null) :: lv.filter (fun q => !(q.1 == i) && !(q.1 + 1 == i && q.2.category == 2)) = lv') (k : SA E M y z mc ms q lv' st h Q) : SA E M y z mc ms pc lv (.null :: st) h Q := by
  intro p e R s m args below meth c C H locs cells slots ls hz hP hS hl hcc hss
  subst hq
  exact lv_astoreN C.x C.b hd hl hn hl' (fun ls' hl2 => k p e R s m args below meth c C H locs cells slots ls' hz hP hS hl2 hcc hss)
theorem s_iinc {i j : Nat} {n : Int} {x v : Int32} {lv' : List (Nat × Value)} (hd : decode M.2.1 pc = .ok (.iinc i n, 3)) (hq : pc + 3 = q) (hj : lv[j]? = some (i, .int x)) (hv : x + Int32.ofInt n = v) (hn : i < M.2.2.1) (hl' : (i, Value.int v) :: lv.filter (fun q => !(q.1 == i) && !(q.1 + 1 == i && q.2.category == 2)) = lv') (k : SA E M y z mc ms q lv' st h Q) : SA E M y z mc ms pc lv st h Q := by
  intro p e R s m args below meth c C H locs cells slots ls hz hP hS hl hcc hss
  subst hq
  exact lv_iinc C.x C.b hd hl hj hv hn hl' (fun ls' hl2 => k p e R s m args below meth c C H locs cells slots ls' hz hP hS hl2 hcc hss)
theorem s_iadd {x w : Int32} (hd : decode M.2.1 pc = .ok (.iadd, 1)) (hq : pc + 1 = q)  (k : SA E M y z mc ms q lv (.int (x + w) :: st) h Q) : SA E M y z mc ms pc lv (.int w :: .int x :: st) h Q := by
  intro p e R s m args below meth c C H locs cells slots ls hz hP hS hl hcc hss
  subst hq
  exact lv_iadd C.x C.b hd (k p e R s m args below meth c C H locs cells slots ls hz hP hS hl hcc hss)
theorem s_isub {x w : Int32} (hd : decode M.2.1 pc = .ok (.isub, 1)) (hq : pc + 1 = q)  (k : SA E M y z mc ms q lv (.int (x - w) :: st) h Q) : SA E M y z mc ms pc lv (.int w :: .int x :: st) h Q := by
  intro p e R s m args below meth c C H locs cells slots ls hz hP hS hl hcc hss
  subst hq
  exact lv_isub C.x C.b hd (k p e R s m args below meth c C H locs cells slots ls hz hP hS hl hcc hss)
theorem s_imul {x w : Int32} (hd : decode M.2.1 pc = .ok (.imul, 1)) (hq : pc + 1 = q)  (k : SA E M y z mc ms q lv (.int (x * w) :: st) h Q) : SA E M y z mc ms pc lv (.int w :: .int x :: st) h Q := by
  intro p e R s m args below meth c C H locs cells slots ls hz hP hS hl hcc hss
  subst hq
  exact lv_imul C.x C.b hd (k p e R s m args below meth c C H locs cells slots ls hz hP hS hl hcc hss)
theorem s_iand {x w : Int32} (hd : decode M.2.1 pc = .ok (.iand, 1)) (hq : pc + 1 = q)  (k : SA E M y z mc ms q lv (.int (x &&& w) :: st) h Q) : SA E M y z mc ms pc lv (.int w :: .int x :: st) h Q := by
  intro p e R s m args below meth c C H locs cells slots ls hz hP hS hl hcc hss
  subst hq
  exact lv_iand C.x C.b hd (k p e R s m args below meth c C H locs cells slots ls hz hP hS hl hcc hss)
theorem s_ior {x w : Int32} (hd : decode M.2.1 pc = .ok (.ior, 1)) (hq : pc + 1 = q)  (k : SA E M y z mc ms q lv (.int (x ||| w) :: st) h Q) : SA E M y z mc ms pc lv (.int w :: .int x :: st) h Q := by
  intro p e R s m args below meth c C H locs cells slots ls hz hP hS hl hcc hss
  subst hq
  exact lv_ior C.x C.b hd (k p e R s m args below meth c C H locs cells slots ls hz hP hS hl hcc hss)
theorem s_ixor {x w : Int32} (hd : decode M.2.1 pc = .ok (.ixor, 1)) (hq : pc + 1 = q)  (k : SA E M y z mc ms q lv (.int (x ^^^ w) :: st) h Q) : SA E M y z mc ms pc lv (.int w :: .int x :: st) h Q := by
  intro p e R s m args below meth c C H locs cells slots ls hz hP hS hl hcc hss
  subst hq
  exact lv_ixor C.x C.b hd (k p e R s m args below meth c C H locs cells slots ls hz hP hS hl hcc hss)
theorem s_ishl {x w : Int32} (hd : decode M.2.1 pc = .ok (.ishl, 1)) (hq : pc + 1 = q)  (k : SA E M y z mc ms q lv (.int (x <<< (w &&& 31)) :: st) h Q) : SA E M y z mc ms pc lv (.int w :: .int x :: st) h Q := by
  intro p e R s m args below meth c C H locs cells slots ls hz hP hS hl hcc hss
  subst hq
  exact lv_ishl C.x C.b hd (k p e R s m args below meth c C H locs cells slots ls hz hP hS hl hcc hss)
theorem s_ishr {x w : Int32} (hd : decode M.2.1 pc = .ok (.ishr, 1)) (hq : pc + 1 = q)  (k : SA E M y z mc ms q lv (.int (x >>> (w &&& 31)) :: st) h Q) : SA E M y z mc ms pc lv (.int w :: .int x :: st) h Q := by
  intro p e R s m args below meth c C H locs cells slots ls hz hP hS hl hcc hss
  subst hq
  exact lv_ishr C.x C.b hd (k p e R s m args below meth c C H locs cells slots ls hz hP hS hl hcc hss)
theorem s_iushr {x w : Int32} (hd : decode M.2.1 pc = .ok (.iushr, 1)) (hq : pc + 1 = q)  (k : SA E M y z mc ms q lv (.int ((x.toUInt32 >>> (w.toUInt32 &&& Int32.toUInt32 31)).toInt32) :: st) h Q) : SA E M y z mc ms pc lv (.int w :: .int x :: st) h Q := by
  intro p e R s m args below meth c C H locs cells slots ls hz hP hS hl hcc hss
  subst hq
  exact lv_iushr C.x C.b hd rfl (k p e R s m args below meth c C H locs cells slots ls hz hP hS hl hcc hss)
theorem s_idiv {x w : Int32} (hd : decode M.2.1 pc = .ok (.idiv, 1)) (hq : pc + 1 = q) (hne : ¬ w = 0) (k : SA E M y z mc ms q lv (.int (x / w) :: st) h Q) : SA E M y z mc ms pc lv (.int w :: .int x :: st) h Q := by
  intro p e R s m args below meth c C H locs cells slots ls hz hP hS hl hcc hss
  subst hq
  exact lv_idiv C.x C.b hd hne (k p e R s m args below meth c C H locs cells slots ls hz hP hS hl hcc hss)
theorem s_irem {x w : Int32} (hd : decode M.2.1 pc = .ok (.irem, 1)) (hq : pc + 1 = q) (hne : ¬ w = 0) (k : SA E M y z mc ms q lv (.int (x - x / w * w) :: st) h Q) : SA E M y z mc ms pc lv (.int w :: .int x :: st) h Q := by
  intro p e R s m args below meth c C H locs cells slots ls hz hP hS hl hcc hss
  subst hq
  exact lv_irem C.x C.b hd hne (k p e R s m args below meth c C H locs cells slots ls hz hP hS hl hcc hss)
theorem s_ineg {x : Int32} (hd : decode M.2.1 pc = .ok (.ineg, 1)) (hq : pc + 1 = q)  (k : SA E M y z mc ms q lv (.int (-x) :: st) h Q) : SA E M y z mc ms pc lv (.int x :: st) h Q := by
  intro p e R s m args below meth c C H locs cells slots ls hz hP hS hl hcc hss
  subst hq
  exact lv_ineg C.x C.b hd (k p e R s m args below meth c C H locs cells slots ls hz hP hS hl hcc hss)
theorem s_ladd {x w : Int64} (hd : decode M.2.1 pc = .ok (.ladd, 1)) (hq : pc + 1 = q)  (k : SA E M y z mc ms q lv (.long (x + w) :: st) h Q) : SA E M y z mc ms pc lv (.long w :: .long x :: st) h Q := by
  intro p e R s m args below meth c C H locs cells slots ls hz hP hS hl hcc hss
  subst hq
  exact lv_ladd C.x C.b hd (k p e R s m args below meth c C H locs cells slots ls hz hP hS hl hcc hss)
theorem s_lsub {x w : Int64} (hd : decode M.2.1 pc = .ok (.lsub, 1)) (hq : pc + 1 = q)  (k : SA E M y z mc ms q lv (.long (x - w) :: st) h Q) : SA E M y z mc ms pc lv (.long w :: .long x :: st) h Q := by
  intro p e R s m args below meth c C H locs cells slots ls hz hP hS hl hcc hss
  subst hq
  exact lv_lsub C.x C.b hd (k p e R s m args below meth c C H locs cells slots ls hz hP hS hl hcc hss)
theorem s_lmul {x w : Int64} (hd : decode M.2.1 pc = .ok (.lmul, 1)) (hq : pc + 1 = q)  (k : SA E M y z mc ms q lv (.long (x * w) :: st) h Q) : SA E M y z mc ms pc lv (.long w :: .long x :: st) h Q := by
  intro p e R s m args below meth c C H locs cells slots ls hz hP hS hl hcc hss
  subst hq
  exact lv_lmul C.x C.b hd (k p e R s m args below meth c C H locs cells slots ls hz hP hS hl hcc hss)
theorem s_ldiv {x w : Int64} (hd : decode M.2.1 pc = .ok (.ldiv, 1)) (hq : pc + 1 = q) (hne : ¬ w = 0) (k : SA E M y z mc ms q lv (.long (x / w) :: st) h Q) : SA E M y z mc ms pc lv (.long w :: .long x :: st) h Q := by
  intro p e R s m args below meth c C H locs cells slots ls hz hP hS hl hcc hss
  subst hq
  exact lv_ldiv C.x C.b hd hne (k p e R s m args below meth c C H locs cells slots ls hz hP hS hl hcc hss)
theorem s_lrem {x w : Int64} (hd : decode M.2.1 pc = .ok (.lrem, 1)) (hq : pc + 1 = q) (hne : ¬ w = 0) (k : SA E M y z mc ms q lv (.long (x - x / w * w) :: st) h Q) : SA E M y z mc ms pc lv (.long w :: .long x :: st) h Q := by
  intro p e R s m args below meth c C H locs cells slots ls hz hP hS hl hcc hss
  subst hq
  exact lv_lrem C.x C.b hd hne (k p e R s m args below meth c C H locs cells slots ls hz hP hS hl hcc hss)
theorem s_lcmp {x w : Int64} (hd : decode M.2.1 pc = .ok (.lcmp, 1)) (hq : pc + 1 = q)  (k : SA E M y z mc ms q lv (.int (lg_cmp x w) :: st) h Q) : SA E M y z mc ms pc lv (.long w :: .long x :: st) h Q := by
  intro p e R s m args below meth c C H locs cells slots ls hz hP hS hl hcc hss
  subst hq
  exact W.lcmp C.x C.b hd (k p e R s m args below meth c C H locs cells slots ls hz hP hS hl hcc hss)
theorem s_i2l {x : Int32} (hd : decode M.2.1 pc = .ok (.i2l, 1)) (hq : pc + 1 = q)  (k : SA E M y z mc ms q lv (.long (x.toInt64) :: st) h Q) : SA E M y z mc ms pc lv (.int x :: st) h Q := by
  intro p e R s m args below meth c C H locs cells slots ls hz hP hS hl hcc hss
  subst hq
  exact lv_i2l C.x C.b hd rfl (k p e R s m args below meth c C H locs cells slots ls hz hP hS hl hcc hss)
theorem s_l2i {x : Int64} (hd : decode M.2.1 pc = .ok (.l2i, 1)) (hq : pc + 1 = q)  (k : SA E M y z mc ms q lv (.int (x.toInt32) :: st) h Q) : SA E M y z mc ms pc lv (.long x :: st) h Q := by
  intro p e R s m args below meth c C H locs cells slots ls hz hP hS hl hcc hss
  subst hq
  exact lv_l2i C.x C.b hd rfl (k p e R s m args below meth c C H locs cells slots ls hz hP hS hl hcc hss)
theorem s_i2b {x : Int32} (hd : decode M.2.1 pc = .ok (.i2b, 1)) (hq : pc + 1 = q)  (k : SA E M y z mc ms q lv (.int (x.toInt8.toInt32) :: st) h Q) : SA E M y z mc ms pc lv (.int x :: st) h Q := by
  intro p e R s m args below meth c C H locs cells slots ls hz hP hS hl hcc hss
  subst hq
  exact lv_i2b C.x C.b hd rfl (k p e R s m args below meth c C H locs cells slots ls hz hP hS hl hcc hss)
theorem s_i2s {x : Int32} (hd : decode M.2.1 pc = .ok (.i2s, 1)) (hq : pc + 1 = q)  (k : SA E M y z mc ms q lv (.int (x.toInt16.toInt32) :: st) h Q) : SA E M y z mc ms pc lv (.int x :: st) h Q := by
  intro p e R s m args below meth c C H locs cells slots ls hz hP hS hl hcc hss
  subst hq
  exact lv_i2s C.x C.b hd rfl (k p e R s m args below meth c C H locs cells slots ls hz hP hS hl hcc hss)
theorem s_i2c {x : Int32} (hd : decode M.2.1 pc = .ok (.i2c, 1)) (hq : pc + 1 = q)  (k : SA E M y z mc ms q lv (.int ((x.toUInt32 % 65536).toInt32) :: st) h Q) : SA E M y z mc ms pc lv (.int x :: st) h Q := by
  intro p e R s m args below meth c C H locs cells slots ls hz hP hS hl hcc hss
  subst hq
  exact lv_i2c C.x C.b hd rfl (k p e R s m args below meth c C H locs cells slots ls hz hP hS hl hcc hss)
theorem s_dup {v : Value} (hd : decode M.2.1 pc = .ok (.dup, 1)) (hq : pc + 1 = q) (hv : v.category = 1) (k : SA E M y z mc ms q lv (v :: v :: st) h Q) : SA E M y z mc ms pc lv (v :: st) h Q := by
  intro p e R s m args below meth c C H locs cells slots ls hz hP hS hl hcc hss
  subst hq
  exact lv_dup C.x C.b hd hv (k p e R s m args below meth c C H locs cells slots ls hz hP hS hl hcc hss)
theorem s_pop {v : Value} (hd : decode M.2.1 pc = .ok (.pop, 1)) (hq : pc + 1 = q) (hv : v.category = 1) (k : SA E M y z mc ms q lv (st) h Q) : SA E M y z mc ms pc lv (v :: st) h Q := by
  intro p e R s m args below meth c C H locs cells slots ls hz hP hS hl hcc hss
  subst hq
  exact lv_pop C.x C.b hd hv (k p e R s m args below meth c C H locs cells slots ls hz hP hS hl hcc hss)
theorem s_dup2 {v w : Value} (hd : decode M.2.1 pc = .ok (.dup2, 1)) (hq : pc + 1 = q) (hv : v.category = 1) (hw : w.category = 1) (k : SA E M y z mc ms q lv (v :: w :: v :: w :: st) h Q) : SA E M y z mc ms pc lv (v :: w :: st) h Q := by
  intro p e R s m args below meth c C H locs cells slots ls hz hP hS hl hcc hss
  subst hq
  exact lv_dup2_11 C.x C.b hd hv hw (k p e R s m args below meth c C H locs cells slots ls hz hP hS hl hcc hss)
theorem s_dup_x1 {v w : Value} (hd : decode M.2.1 pc = .ok (.dup_x1, 1)) (hq : pc + 1 = q) (hv : v.category = 1) (hw : w.category = 1) (k : SA E M y z mc ms q lv (v :: w :: v :: st) h Q) : SA E M y z mc ms pc lv (v :: w :: st) h Q := by
  intro p e R s m args below meth c C H locs cells slots ls hz hP hS hl hcc hss
  subst hq
  exact lv_dup_x1 C.x C.b hd hv hw (k p e R s m args below meth c C H locs cells slots ls hz hP hS hl hcc hss)
theorem s_icmp_eq {x w : Int32} {off : Int} {tgt : Nat} (hd : decode M.2.1 pc = .ok (.if_icmp .eq off, 3)) (ht : (pc : Int) + off = (tgt : Int)) (hq : pc + 3 = q) (kt : x = w → SA E M y z mc ms tgt lv st h Q) (kf : ¬ x = w → SA E M y z mc ms q lv st h Q) : SA E M y z mc ms pc lv (.int w :: .int x :: st) h Q := by
  intro p e R s m args below meth c C H locs cells slots ls hz hP hS hl hcc hss
  subst hq
  exact lv_icmp_eq C.x C.b hd ht (fun hp => kt hp p e R s m args below meth c C H locs cells slots ls hz hP hS hl hcc hss) (fun hp => kf hp p e R s m args below meth c C H locs cells slots ls hz hP hS hl hcc hss)
theorem s_if_eq {x : Int32} {off : Int} {tgt : Nat} (hd : decode M.2.1 pc = .ok (.ifCond .eq off, 3)) (ht : (pc : Int) + off = (tgt : Int)) (hq : pc + 3 = q) (kt : x = 0 → SA E M y z mc ms tgt lv st h Q) (kf : ¬ x = 0 → SA E M y z mc ms q lv st h Q) : SA E M y z mc ms pc lv (.int x :: st) h Q := by
  intro p e R s m args below meth c C H locs cells slots ls hz hP hS hl hcc hss
  subst hq
  exact lv_if_eq C.x C.b hd ht (fun hp => kt hp p e R s m args below meth c C H locs cells slots ls hz hP hS hl hcc hss) (fun hp => kf hp p e R s m args below meth c C H locs cells slots ls hz hP hS hl hcc hss)
theorem s_icmp_lt {x w : Int32} {off : Int} {tgt : Nat} (hd : decode M.2.1 pc = .ok (.if_icmp .lt off, 3)) (ht : (pc : Int) + off = (tgt : Int)) (hq : pc + 3 = q) (kt : x < w → SA E M y z mc ms tgt lv st h Q) (kf : ¬ x < w → SA E M y z mc ms q lv st h Q) : SA E M y z mc ms pc lv (.int w :: .int x :: st) h Q := by
  intro p e R s m args below meth c C H locs cells slots ls hz hP hS hl hcc hss
  subst hq
  exact lv_icmp_lt C.x C.b hd ht (fun hp => kt hp p e R s m args below meth c C H locs cells slots ls hz hP hS hl hcc hss) (fun hp => kf hp p e R s m args below meth c C H locs cells slots ls hz hP hS hl hcc hss)
theorem s_if_lt {x : Int32} {off : Int} {tgt : Nat} (hd : decode M.2.1 pc = .ok (.ifCond .lt off, 3)) (ht : (pc : Int) + off = (tgt : Int)) (hq : pc + 3 = q) (kt : x < 0 → SA E M y z mc ms tgt lv st h Q) (kf : ¬ x < 0 → SA E M y z mc ms q lv st h Q) : SA E M y z mc ms pc lv (.int x :: st) h Q := by
  intro p e R s m args below meth c C H locs cells slots ls hz hP hS hl hcc hss
  subst hq
  exact lv_if_lt C.x C.b hd ht (fun hp => kt hp p e R s m args below meth c C H locs cells slots ls hz hP hS hl hcc hss) (fun hp => kf hp p e R s m args below meth c C H locs cells slots ls hz hP hS hl hcc hss)
theorem s_icmp_ge {x w : Int32} {off : Int} {tgt : Nat} (hd : decode M.2.1 pc = .ok (.if_icmp .ge off, 3)) (ht : (pc : Int) + off = (tgt : Int)) (hq : pc + 3 = q) (kt : w ≤ x → SA E M y z mc ms tgt lv st h Q) (kf : ¬ w ≤ x → SA E M y z mc ms q lv st h Q) : SA E M y z mc ms pc lv (.int w :: .int x :: st) h Q := by
  intro p e R s m args below meth c C H locs cells slots ls hz hP hS hl hcc hss
  subst hq
  exact lv_icmp_ge C.x C.b hd ht (fun hp => kt hp p e R s m args below meth c C H locs cells slots ls hz hP hS hl hcc hss) (fun hp => kf hp p e R s m args below meth c C H locs cells slots ls hz hP hS hl hcc hss)
theorem s_if_ge {x : Int32} {off : Int} {tgt : Nat} (hd : decode M.2.1 pc = .ok (.ifCond .ge off, 3)) (ht : (pc : Int) + off = (tgt : Int)) (hq : pc + 3 = q) (kt : 0 ≤ x → SA E M y z mc ms tgt lv st h Q) (kf : ¬ 0 ≤ x → SA E M y z mc ms q lv st h Q) : SA E M y z mc ms pc lv (.int x :: st) h Q := by
  intro p e R s m args below meth c C H locs cells slots ls hz hP hS hl hcc hss
  subst hq
  exact lv_if_ge C.x C.b hd ht (fun hp => kt hp p e R s m args below meth c C H locs cells slots ls hz hP hS hl hcc hss) (fun hp => kf hp p e R s m args below meth c C H locs cells slots ls hz hP hS hl hcc hss)
theorem s_icmp_gt {x w : Int32} {off : Int} {tgt : Nat} (hd : decode M.2.1 pc = .ok (.if_icmp .gt off, 3)) (ht : (pc : Int) + off = (tgt : Int)) (hq : pc + 3 = q) (kt : w < x → SA E M y z mc ms tgt lv st h Q) (kf : ¬ w < x → SA E M y z mc ms q lv st h Q) : SA E M y z mc ms pc lv (.int w :: .int x :: st) h Q := by
  intro p e R s m args below meth c C H locs cells slots ls hz hP hS hl hcc hss
  subst hq
  exact lv_icmp_gt C.x C.b hd ht (fun hp => kt hp p e R s m args below meth c C H locs cells slots ls hz hP hS hl hcc hss) (fun hp => kf hp p e R s m args below meth c C H locs cells slots ls hz hP hS hl hcc hss)
theorem s_if_gt {x : Int32} {off : Int} {tgt : Nat} (hd : decode M.2.1 pc = .ok (.ifCond .gt off, 3)) (ht : (pc : Int) + off = (tgt : Int)) (hq : pc + 3 = q) (kt : 0 < x → SA E M y z mc ms tgt lv st h Q) (kf : ¬ 0 < x → SA E M y z mc ms q lv st h Q) : SA E M y z mc ms pc lv (.int x :: st) h Q := by
  intro p e R s m args below meth c C H locs cells slots ls hz hP hS hl hcc hss
  subst hq
  exact lv_if_gt C.x C.b hd ht (fun hp => kt hp p e R s m args below meth c C H locs cells slots ls hz hP hS hl hcc hss) (fun hp => kf hp p e R s m args below meth c C H locs cells slots ls hz hP hS hl hcc hss)
theorem s_icmp_le {x w : Int32} {off : Int} {tgt : Nat} (hd : decode M.2.1 pc = .ok (.if_icmp .le off, 3)) (ht : (pc : Int) + off = (tgt : Int)) (hq : pc + 3 = q) (kt : x ≤ w → SA E M y z mc ms tgt lv st h Q) (kf : ¬ x ≤ w → SA E M y z mc ms q lv st h Q) : SA E M y z mc ms pc lv (.int w :: .int x :: st) h Q := by
  intro p e R s m args below meth c C H locs cells slots ls hz hP hS hl hcc hss
  subst hq
  exact lv_icmp_le C.x C.b hd ht (fun hp => kt hp p e R s m args below meth c C H locs cells slots ls hz hP hS hl hcc hss) (fun hp => kf hp p e R s m args below meth c C H locs cells slots ls hz hP hS hl hcc hss)
theorem s_if_le {x : Int32} {off : Int} {tgt : Nat} (hd : decode M.2.1 pc = .ok (.ifCond .le off, 3)) (ht : (pc : Int) + off = (tgt : Int)) (hq : pc + 3 = q) (kt : x ≤ 0 → SA E M y z mc ms tgt lv st h Q) (kf : ¬ x ≤ 0 → SA E M y z mc ms q lv st h Q) : SA E M y z mc ms pc lv (.int x :: st) h Q := by
  intro p e R s m args below meth c C H locs cells slots ls hz hP hS hl hcc hss
  subst hq
  exact lv_if_le C.x C.b hd ht (fun hp => kt hp p e R s m args below meth c C H locs cells slots ls hz hP hS hl hcc hss) (fun hp => kf hp p e R s m args below meth c C H locs cells slots ls hz hP hS hl hcc hss)
theorem s_icmp_ne {x w : Int32} {off : Int} {tgt : Nat} (hd : decode M.2.1 pc = .ok (.if_icmp .ne off, 3)) (ht : (pc : Int) + off = (tgt : Int)) (hq : pc + 3 = q) (kt : ¬ x = w → SA E M y z mc ms tgt lv st h Q) (kf : x = w → SA E M y z mc ms q lv st h Q) : SA E M y z mc ms pc lv (.int w :: .int x :: st) h Q := by
  intro p e R s m args below meth c C H locs cells slots ls hz hP hS hl hcc hss
  subst hq
  exact lv_icmp_ne C.x C.b hd ht (fun hp => kt hp p e R s m args below meth c C H locs cells slots ls hz hP hS hl hcc hss) (fun hp => kf hp p e R s m args below meth c C H locs cells slots ls hz hP hS hl hcc hss)
theorem s_if_ne {x : Int32} {off : Int} {tgt : Nat} (hd : decode M.2.1 pc = .ok (.ifCond .ne off, 3)) (ht : (pc : Int) + off = (tgt : Int)) (hq : pc + 3 = q) (kt : ¬ x = 0 → SA E M y z mc ms tgt lv st h Q) (kf : x = 0 → SA E M y z mc ms q lv st h Q) : SA E M y z mc ms pc lv (.int x :: st) h Q := by
  intro p e R s m args below meth c C H locs cells slots ls hz hP hS hl hcc hss
  subst hq
  exact lv_if_ne C.x C.b hd ht (fun hp => kt hp p e R s m args below meth c C H locs cells slots ls hz hP hS hl hcc hss) (fun hp => kf hp p e R s m args below meth c C H locs cells slots ls hz hP hS hl hcc hss)
theorem s_goto {off : Int} {tgt : Nat} (hd : decode M.2.1 pc = .ok (.goto off, 3)) (ht : (pc : Int) + off = (tgt : Int)) (k : SA E M y z mc ms tgt lv (st) h Q) : SA E M y z mc ms pc lv (st) h Q := by
  intro p e R s m args below meth c C H locs cells slots ls hz hP hS hl hcc hss
  exact lv_goto C.x C.b hd ht (k p e R s m args below meth c C H locs cells slots ls hz hP hS hl hcc hss)
theorem s_ifnullN {off : Int} {tgt : Nat} (hd : decode M.2.1 pc = .ok (.ifnull off, 3)) (ht : (pc : Int) + off = (tgt : Int)) (k : SA E M y z mc ms tgt lv (st) h Q) : SA E M y z mc ms pc lv (.null :: st) h Q := by
  intro p e R s m args below meth c C H locs cells slots ls hz hP hS hl hcc hss
  exact lv_ifnullN C.x C.b hd ht (k p e R s m args below meth c C H locs cells slots ls hz hP hS hl hcc hss)
theorem s_ifnonnull {off : Int} {tgt x : Nat} (hd : decode M.2.1 pc = .ok (.ifnonnull off, 3)) (ht : (pc : Int) + off = (tgt : Int)) (k : SA E M y z mc ms tgt lv (st) h Q) : SA E M y z mc ms pc lv (.ref x :: st) h Q := by
  intro p e R s m args below meth c C H locs cells slots ls hz hP hS hl hcc hss
  exact lv_ifnonnull C.x C.b hd ht (k p e R s m args below meth c C H locs cells slots ls hz hP hS hl hcc hss)
theorem s_ifnull {off : Int} {tgt x : Nat} (hd : decode M.2.1 pc = .ok (.ifnull off, 3)) (ht : pc + 3 = tgt) (k : SA E M y z mc ms tgt lv (st) h Q) : SA E M y z mc ms pc lv (.ref x :: st) h Q := by
  intro p e R s m args below meth c C H locs cells slots ls hz hP hS hl hcc hss
  exact lv_ifnull C.x C.b hd (by subst ht; exact (k p e R s m args below meth c C H locs cells slots ls hz hP hS hl hcc hss))
theorem s_ifnonnullN {off : Int} {tgt : Nat} (hd : decode M.2.1 pc = .ok (.ifnonnull off, 3)) (ht : pc + 3 = tgt) (k : SA E M y z mc ms tgt lv (st) h Q) : SA E M y z mc ms pc lv (.null :: st) h Q := by
  intro p e R s m args below meth c C H locs cells slots ls hz hP hS hl hcc hss
  exact lv_ifnonnullN C.x C.b hd (by subst ht; exact (k p e R s m args below meth c C H locs cells slots ls hz hP hS hl hcc hss))
theorem s_tableOut {dflt lo hi : Int} {offs : Array Int} {len : Nat} {x : Int32} {tgt : Nat} (hd : decode M.2.1 pc = .ok (.tableswitch dflt lo hi offs, len)) (hx : x.toInt < lo ∨ hi < x.toInt) (ht : (pc : Int) + dflt = (tgt : Int)) (k : SA E M y z mc ms tgt lv (st) h Q) : SA E M y z mc ms pc lv (.int x :: st) h Q := by
  intro p e R s m args below meth c C H locs cells slots ls hz hP hS hl hcc hss
  exact lv_tableOut C.x C.b hd hx ht (k p e R s m args below meth c C H locs cells slots ls hz hP hS hl hcc hss)
theorem s_tableIn {dflt lo hi : Int} {offs : Array Int} {len : Nat} {x : Int32} {off : Int} {tgt : Nat} (hd : decode M.2.1 pc = .ok (.tableswitch dflt lo hi offs, len)) (h1 : ¬ x.toInt < lo) (h2 : ¬ hi < x.toInt) (ho : offs[(x.toInt - lo).toNat]? = some off) (ht : (pc : Int) + off = (tgt : Int)) (k : SA E M y z mc ms tgt lv (st) h Q) : SA E M y z mc ms pc lv (.int x :: st) h Q := by
  intro p e R s m args below meth c C H locs cells slots ls hz hP hS hl hcc hss
  exact lv_tableIn C.x C.b hd h1 h2 ho ht (k p e R s m args below meth c C H locs cells slots ls hz hP hS hl hcc hss)
theorem s_lookup {dflt : Int} {ps : Array (Int × Int)} {len : Nat} {x : Int32} {off : Int} {tgt : Nat} (hd : decode M.2.1 pc = .ok (.lookupswitch dflt ps, len)) (hp : (ps.toList.zip (ps.toList.drop 1)).all (fun (a, next) => a.1 < next.1) = true) (ho : Op.lookupswitch.offset ps.toList dflt x.toInt = off) (ht : (pc : Int) + off = (tgt : Int)) (k : SA E M y z mc ms tgt lv (st) h Q) : SA E M y z mc ms pc lv (.int x :: st) h Q := by
  intro p e R s m args below meth c C H locs cells slots ls hz hP hS hl hcc hss
  exact lv_lookup C.x C.b hd hp ho ht (k p e R s m args below meth c C H locs cells slots ls hz hP hS hl hcc hss)
theorem s_getf {k0 ci n i j : Nat} {Cn : String} {T : u_T} {fs : List Value} {v : Value} (hd : decode M.2.1 pc = .ok (.getfield i, 3)) (hq : pc + 3 = q) (hh : h[k0]? = some (.inr (ci, fs))) (hc : vwCl[ci]? = some (Cn, T, n)) (hin : ∀ w ∈ u_ws Cn T n, w ∈ TB) (hj : j < n) (hw : Cond.fieldLink M.1.cls i (T j).1 (T j).2.1 (T j).2.2.1 ∈ TB) (hv : fs[j]? = some v) (k : SA E M y z mc ms q lv (v :: st) h Q) : SA E M y z mc ms pc lv (.ref (eB E + k0) :: st) h Q := by
  intro p e R s m args below meth c C H locs cells slots ls hz hP hS hl hcc hss
  subst hq
  exact va_get (D := eD E) C.x C.b C.ts hin C.o C.K hP k0 (hw_at hh) hc j hj (C.ts _ hw) (fun _ h9 => h9) hv hd (k p e R s m args below meth c C H locs cells slots ls hz hP hS hl hcc hss)
theorem s_iald {k0 n : Nat} {f : Nat → Int32} {x : Int32} (hd : decode M.2.1 pc = .ok (.iaload, 1)) (hq : pc + 1 = q) (hh : h[k0]? = some (.inl (eI E, n, .inl f))) (hx : vp_in x n) (k : SA E M y z mc ms q lv (.int (f x.toNatClampNeg) :: st) h Q) : SA E M y z mc ms pc lv (.int x :: .ref (eB E + k0) :: st) h Q := by
  intro p e R s m args below meth c C H locs cells slots ls hz hP hS hl hcc hss
  subst hq
  exact va_iald C.x C.b C.K hP k0 0 (hw_at hh) rfl hx hd (k p e R s m args below meth c C H locs cells slots ls hz hP hS hl hcc hss)
theorem s_bald {k0 n : Nat} {f : Nat → Int32} {x : Int32} (hd : decode M.2.1 pc = .ok (.baload, 1)) (hq : pc + 1 = q) (hh : h[k0]? = some (.inl (eY E, n, .inl f))) (hx : vp_in x n) (k : SA E M y z mc ms q lv (.int (f x.toNatClampNeg) :: st) h Q) : SA E M y z mc ms pc lv (.int x :: .ref (eB E + k0) :: st) h Q := by
  intro p e R s m args below meth c C H locs cells slots ls hz hP hS hl hcc hss
  subst hq
  exact va_bald C.x C.b C.K hP k0 1 (hw_at hh) rfl hx hd (k p e R s m args below meth c C H locs cells slots ls hz hP hS hl hcc hss)
theorem s_cald {k0 n : Nat} {f : Nat → Int32} {x : Int32} (hd : decode M.2.1 pc = .ok (.caload, 1)) (hq : pc + 1 = q) (hh : h[k0]? = some (.inl (eC E, n, .inl f))) (hx : vp_in x n) (k : SA E M y z mc ms q lv (.int (f x.toNatClampNeg) :: st) h Q) : SA E M y z mc ms pc lv (.int x :: .ref (eB E + k0) :: st) h Q := by
  intro p e R s m args below meth c C H locs cells slots ls hz hP hS hl hcc hss
  subst hq
  exact va_cald C.x C.b C.K hP k0 2 (hw_at hh) rfl hx hd (k p e R s m args below meth c C H locs cells slots ls hz hP hS hl hcc hss)
theorem s_aald {k0 n : Nat} {f : Nat → Option Nat} {x : Int32} (hd : decode M.2.1 pc = .ok (.aaload, 1)) (hq : pc + 1 = q) (hh : h[k0]? = some (.inl (eH E, n, .inr (.inr (.inr (.inr f)))))) (hx : vp_in x n) (k : SA E M y z mc ms q lv (va_rf (f x.toNatClampNeg) :: st) h Q) : SA E M y z mc ms pc lv (.int x :: .ref (eB E + k0) :: st) h Q := by
  intro p e R s m args below meth c C H locs cells slots ls hz hP hS hl hcc hss
  subst hq
  exact va_aldq C.x C.b C.K hP k0 3 (hw_at hh) rfl hx hd (k p e R s m args below meth c C H locs cells slots ls hz hP hS hl hcc hss)
theorem s_alen {k0 t0 : Nat} {cA : ClassId} {ty : FieldType} {x : vp_A} {v : Int32} (hd : decode M.2.1 pc = .ok (.arraylength, 1)) (hq : pc + 1 = q) (hh : h[k0]? = some (.inl (cA, x))) (ht : (eT E)[t0]? = some (cA, ty)) (hv : Int32.ofNat x.1 = v) (k : SA E M y z mc ms q lv (.int v :: st) h Q) : SA E M y z mc ms pc lv (.ref (eB E + k0) :: st) h Q := by
  intro p e R s m args below meth c C H locs cells slots ls hz hP hS hl hcc hss
  subst hq
  exact va_alen C.x C.b C.K hP k0 t0 (hw_at hh) ht hv hd (k p e R s m args below meth c C H locs cells slots ls hz hP hS hl hcc hss)
theorem s_oldld {t n : Nat} {f : Nat → Int32} {x : Int32} (hd : decode M.2.1 pc = .ok (.iaload, 1)) (hq : pc + 1 = q) (hh : (t, n, f) ∈ eO E) (hx : vp_in x n) (k : SA E M y z mc ms q lv (.int (f x.toNatClampNeg) :: st) h Q) : SA E M y z mc ms pc lv (.int x :: .ref t :: st) h Q := by
  intro p e R s m args below meth c C H locs cells slots ls hz hP hS hl hcc hss
  subst hq
  exact va_ti C.x C.b (C.old.2.1 _ hh) hS hx rfl hd (k p e R s m args below meth c C H locs cells slots ls hz hP hS hl hcc hss)
theorem s_oldlen {t n : Nat} {f : Nat → Int32} {v : Int32} (hd : decode M.2.1 pc = .ok (.arraylength, 1)) (hq : pc + 1 = q) (hh : (t, n, f) ∈ eO E) (hv : Int32.ofNat n = v) (k : SA E M y z mc ms q lv (.int v :: st) h Q) : SA E M y z mc ms pc lv (.ref t :: st) h Q := by
  intro p e R s m args below meth c C H locs cells slots ls hz hP hS hl hcc hss
  subst hq
  exact va_tlen C.x C.b (C.old.2.1 _ hh) hS hv hd (k p e R s m args below meth c C H locs cells slots ls hz hP hS hl hcc hss)
theorem s_table {i : Nat} (hd : decode M.2.1 pc = .ok (.getstatic i, 3)) (hq : pc + 3 = q) (hw : Cond.fieldLink M.1.cls i "StarCrew" "MOST_SETTING" "[I" ∈ TB) (k : SA E M y z mc ms q lv (.ref (eM E) :: st) h Q) : SA E M y z mc ms pc lv (st) h Q := by
  intro p e R s m args below meth c C H locs cells slots ls hz hP hS hl hcc hss
  subst hq
  exact va_gets C.x C.b C.old.1 hS C.o (C.ts _ hw) (fun _ h9 => h9) hd (k p e R s m args below meth c C H locs cells slots ls hz hP hS hl hcc hss)
theorem s_tableN {i : Nat} {host : String} (hd : decode M.2.1 pc = .ok (.getstatic i, 3)) (hq : pc + 3 = q) (hw : Cond.fieldLinkNest M.1.cls i "StarCrew" "MOST_SETTING" "[I" host ∈ NB) (k : SA E M y z mc ms q lv (.ref (eM E) :: st) h Q) : SA E M y z mc ms pc lv (st) h Q := by
  intro p e R s m args below meth c C H locs cells slots ls hz hP hS hl hcc hss
  subst hq
  exact va_getsN C.x C.b C.old.1 hS C.o (va_Nw.use rfl (C.nb _ hw)) (fun _ h9 => h9) hd (k p e R s m args below meth c C H locs cells slots ls hz hP hS hl hcc hss)
theorem s_putf {k0 ci n i j : Nat} {Cn : String} {T : u_T} {ty0 : Nat → FieldType} {fs : List Value} {v : Value} (hd : decode M.2.1 pc = .ok (.putfield i, 3)) (hq : pc + 3 = q) (hh : h[k0]? = some (.inr (ci, fs))) (hc : vwCl[ci]? = some (Cn, T, n)) (hin : ∀ w ∈ u_ws Cn T n, w ∈ TB) (hty : ∀ k, k < n → parseFieldDescriptor (T k).2.2.1 = some (ty0 k)) (hnm : ∀ a, a < n → ∀ b, b < n → a ≠ b → (T a).2.1 ≠ (T b).2.1) (hj : j < n) (hlk : Cond.fieldLink M.1.cls i (T j).1 (T j).2.1 (T j).2.2.1 ∈ TB) (hfin : (T j).2.2.2 = false)  (hn : narrow (ty0 j) v = v) (hfit : fits (ty0 j) v = true) (hlen : j < fs.length) (k : SA E M y z mc ms q lv st (h.set k0 (.inr (ci, fs.set j v))) Q) : SA E M y z mc ms pc lv (v :: .ref (eB E + k0) :: st) h Q := by
  intro p e R s m args below meth c C H locs cells slots ls hz hP hS hl hcc hss
  subst hq
  have hD := hw_D E h
  have hap := va_apart (own := M.1.cls) C.ts hin ty0 hty hnm C.K hc
  obtain ⟨r, h1, cell, q1, q2, q3, q4⟩ := hP k0 _ (hw_at hh)
  have hr : r = (Cn, T, n) := Option.some.inj (h1.symm.trans hc)
  subst hr
  obtain ⟨hSl, hfc, kC, hkC, hkind⟩ := C.K.1 ci _ hc
  obtain ⟨cf, kf, fi, f, hi, hsl⟩ := hSl j hj
  have hlay := C.ts _ (hin _ (u_in_lay hj))
  unfold u_lay at hlay
  rw [if_neg (by rw [hfin]; decide)] at hlay
  have hst := (u_facts hfc hkC (u_lays C.ts hin hj) hi).1
  have h6 := u_store hfc hkC hkind hlay hi (hty j hj) hn hfit
  refine W.putK C.x C.b (f := f) ⟨C.o, C.ts _ hlk, ⟨_, _, _, hi⟩, hst⟩ (by rw [q2]; exact h6) q1 q3 (by rw [hsl]; exact k2_hasslot (q4 j hj)) rfl rfl hd fun H' e1 e2 e3 => ?_
  rw [hsl] at e1 ⊢
  have hP' : va_P (eD E) vwCl (hw (eB E) (h.set k0 (.inr (ci, fs.set j v)))) H' := by
    rw [← hw_set]
    exact hP.set hD (hw_at hh) ⟨_, hc, t_OB.to (V := updV (vp_V fs) j v) ⟨_, e1, q2, q3, t_set q4 hap hj v⟩ (fun j' _ => vp_updV_set hlen v j')⟩ e3
  exact k p e R s m args below meth c C H' _ cells slots ls (fun hy => by rw [e2, hz hy, List.length_set]) hP' (hS.put e2 e3 (hD.2 k0 _ (hw_at hh))) hl hcc hss
theorem s_putF {k0 ci n i j : Nat} {Cn : String} {T : u_T} {ty0 : Nat → FieldType} {fs : List Value} {v : Value} (hd : decode M.2.1 pc = .ok (.putfield i, 3)) (hq : pc + 3 = q) (hh : h[k0]? = some (.inr (ci, fs))) (hc : vwCl[ci]? = some (Cn, T, n)) (hin : ∀ w ∈ u_ws Cn T n, w ∈ TB) (hty : ∀ k, k < n → parseFieldDescriptor (T k).2.2.1 = some (ty0 k)) (hnm : ∀ a, a < n → ∀ b, b < n → a ≠ b → (T a).2.1 ≠ (T b).2.1) (hj : j < n) (hlk : Cond.fieldLink M.1.cls i (T j).1 (T j).2.1 (T j).2.2.1 ∈ TB) (hfin : (T j).2.2.2 = true) (hini : M.1.name = "<init>") (hdecl : (T j).1 = M.1.cls) (hn : narrow (ty0 j) v = v) (hfit : fits (ty0 j) v = true) (hlen : j < fs.length) (k : SA E M y z mc ms q lv st (h.set k0 (.inr (ci, fs.set j v))) Q) : SA E M y z mc ms pc lv (v :: .ref (eB E + k0) :: st) h Q := by
  intro p e R s m args below meth c C H locs cells slots ls hz hP hS hl hcc hss
  subst hq
  have hD := hw_D E h
  have hap := va_apart (own := M.1.cls) C.ts hin ty0 hty hnm C.K hc
  obtain ⟨r, h1, cell, q1, q2, q3, q4⟩ := hP k0 _ (hw_at hh)
  have hr : r = (Cn, T, n) := Option.some.inj (h1.symm.trans hc)
  subst hr
  obtain ⟨hSl, hfc, kC, hkC, hkind⟩ := C.K.1 ci _ hc
  obtain ⟨cf, kf, fi, f, hi, hsl⟩ := hSl j hj
  have hlay := C.ts _ (hin _ (u_in_lay hj))
  unfold u_lay at hlay
  rw [if_pos hfin] at hlay
  have hst := (u_facts hfc hkC (u_lays C.ts hin hj) hi).1
  have hcf : m.cls = cf := by
    obtain ⟨_, _, c', _, _, _, -, -, hf', -, -, -, hown2, -⟩ := Cond.laysFinal_spec hlay
    have e1 : c' = cf := by have := hi.symm.trans hf'; simp at this; exact this.1.symm
    rw [hdecl] at hown2
    rw [← e1]; exact Option.some.inj (C.o.symm.trans hown2)
  have h6 := u_fits hfc hkC hkind (Or.inr hlay) hi (hty j hj) hn hfit
  refine W.putFinK C.x C.b C.o (C.ts _ hlk) hi hst hcf (C.nm hini) (by rw [q2]; exact h6) q1 q3 (by rw [hsl]; exact k2_hasslot (q4 j hj)) rfl rfl hd fun H' e1 e2 e3 => ?_
  rw [hsl] at e1 ⊢
  have hP' : va_P (eD E) vwCl (hw (eB E) (h.set k0 (.inr (ci, fs.set j v)))) H' := by
    rw [← hw_set]
    exact hP.set hD (hw_at hh) ⟨_, hc, t_OB.to (V := updV (vp_V fs) j v) ⟨_, e1, q2, q3, t_set q4 hap hj v⟩ (fun j' _ => vp_updV_set hlen v j')⟩ e3
  exact k p e R s m args below meth c C H' _ cells slots ls (fun hy => by rw [e2, hz hy, List.length_set]) hP' (hS.put e2 e3 (hD.2 k0 _ (hw_at hh))) hl hcc hss
theorem s_iast {k0 n : Nat} {f : Nat → Int32} {x i : Int32} (hd : decode M.2.1 pc = .ok (.iastore, 1)) (hq : pc + 1 = q) (hh : h[k0]? = some (.inl (eI E, n, .inl f))) (hx : vp_in i n) (k : SA E M y z mc ms q lv st (h.set k0 (.inl (eI E, n, .inl (upd f i.toNatClampNeg (x))))) Q) : SA E M y z mc ms pc lv (.int x :: .int i :: .ref (eB E + k0) :: st) h Q := by
  intro p e R s m args below meth c C H locs cells slots ls hz hP hS hl hcc hss
  subst hq
  have hD := hw_D E h
  refine W.iast C.x C.b (hP k0 _ (hw_at hh)) ((C.K.2 0 _ rfl).1 n (fun j => .int (f j))) (fun q => by cases q) (by show ¬ (i < 0 ∨ (arrV _ _ _).slots.size ≤ _); rw [arrV_size]; exact hx) rfl rfl hd fun H1 e1 z1 oq => ?_
  have hP' : va_P (eD E) vwCl (hw (eB E) (h.set k0 (.inl (eI E, n, .inl (upd f i.toNatClampNeg (x)))))) H1 := by
    rw [← hw_set]
    refine hP.set hD (hw_at hh) ?_ oq
    show H1[_]? = some (vp_cell _ _)
    rw [e1, vp_cell_i, vp_cell_i, arrV_store]
    congr 2
    funext q
    by_cases hq : q = i.toNatClampNeg
    · subst hq
      simp [updV, upd]
    · simp [updV, upd, hq]
  exact k p e R s m args below meth c C H1 _ cells slots ls (fun hy => by rw [z1, hz hy, List.length_set]) hP' (hS.put z1 oq (hD.2 k0 _ (hw_at hh))) hl hcc hss
theorem s_bast {k0 n : Nat} {f : Nat → Int32} {x i : Int32} (hd : decode M.2.1 pc = .ok (.bastore, 1)) (hq : pc + 1 = q) (hh : h[k0]? = some (.inl (eY E, n, .inl f))) (hx : vp_in i n) (k : SA E M y z mc ms q lv st (h.set k0 (.inl (eY E, n, .inl (upd f i.toNatClampNeg (vp_nar .byte x))))) Q) : SA E M y z mc ms pc lv (.int x :: .int i :: .ref (eB E + k0) :: st) h Q := by
  intro p e R s m args below meth c C H locs cells slots ls hz hP hS hl hcc hss
  subst hq
  have hD := hw_D E h
  refine W.bast C.x C.b (hP k0 _ (hw_at hh)) ((C.K.2 1 _ rfl).1 n (fun j => .int (f j))) (fun q => by cases q) (by show ¬ (i < 0 ∨ (arrV _ _ _).slots.size ≤ _); rw [arrV_size]; exact hx) rfl rfl hd fun H1 e1 z1 oq => ?_
  have hP' : va_P (eD E) vwCl (hw (eB E) (h.set k0 (.inl (eY E, n, .inl (upd f i.toNatClampNeg (vp_nar .byte x)))))) H1 := by
    rw [← hw_set]
    refine hP.set hD (hw_at hh) ?_ oq
    show H1[_]? = some (vp_cell _ _)
    rw [e1, vp_cell_i, vp_cell_i, arrV_store]
    congr 2
    funext q
    by_cases hq : q = i.toNatClampNeg
    · subst hq
      simp [updV, upd, vp_nar]
      try rfl
    · simp [updV, upd, hq]
  exact k p e R s m args below meth c C H1 _ cells slots ls (fun hy => by rw [z1, hz hy, List.length_set]) hP' (hS.put z1 oq (hD.2 k0 _ (hw_at hh))) hl hcc hss
theorem s_cast {k0 n : Nat} {f : Nat → Int32} {x i : Int32} (hd : decode M.2.1 pc = .ok (.castore, 1)) (hq : pc + 1 = q) (hh : h[k0]? = some (.inl (eC E, n, .inl f))) (hx : vp_in i n) (k : SA E M y z mc ms q lv st (h.set k0 (.inl (eC E, n, .inl (upd f i.toNatClampNeg (vp_nar .char x))))) Q) : SA E M y z mc ms pc lv (.int x :: .int i :: .ref (eB E + k0) :: st) h Q := by
  intro p e R s m args below meth c C H locs cells slots ls hz hP hS hl hcc hss
  subst hq
  have hD := hw_D E h
  refine W.cast C.x C.b (hP k0 _ (hw_at hh)) ((C.K.2 2 _ rfl).1 n (fun j => .int (f j))) (fun q => by cases q) (by show ¬ (i < 0 ∨ (arrV _ _ _).slots.size ≤ _); rw [arrV_size]; exact hx) rfl rfl hd fun H1 e1 z1 oq => ?_
  have hP' : va_P (eD E) vwCl (hw (eB E) (h.set k0 (.inl (eC E, n, .inl (upd f i.toNatClampNeg (vp_nar .char x)))))) H1 := by
    rw [← hw_set]
    refine hP.set hD (hw_at hh) ?_ oq
    show H1[_]? = some (vp_cell _ _)
    rw [e1, vp_cell_i, vp_cell_i, arrV_store]
    congr 2
    funext q
    by_cases hq : q = i.toNatClampNeg
    · subst hq
      simp [updV, upd, vp_nar]
      try rfl
    · simp [updV, upd, hq]
  exact k p e R s m args below meth c C H1 _ cells slots ls (fun hy => by rw [z1, hz hy, List.length_set]) hP' (hS.put z1 oq (hD.2 k0 _ (hw_at hh))) hl hcc hss
theorem s_aast {k0 k1 n ci : Nat} {r : vw_C} {vs : List Value} {f : Nat → Option Nat} {i : Int32} (hd : decode M.2.1 pc = .ok (.aastore, 1)) (hq : pc + 1 = q) (hh : h[k0]? = some (.inl (eH E, n, .inr (.inr (.inr (.inr f)))))) (hv : h[k1]? = some (.inr (ci, vs))) (hc : vwCl[ci]? = some r) (hr : r.1 = "StarCrew$Sheet") (hx : vp_in i n) (k : SA E M y z mc ms q lv st (h.set k0 (.inl (eH E, n, .inr (.inr (.inr (.inr (va_up f i.toNatClampNeg (some (eB E + k1))))))))) Q) : SA E M y z mc ms pc lv (.ref (eB E + k1) :: .int i :: .ref (eB E + k0) :: st) h Q := by
  intro p e R s m args below meth c C H locs cells slots ls hz hP hS hl hcc hss
  subst hq
  have hD := hw_D E h
  have hlt : i.toNatClampNeg < n := Nat.not_le.mp fun q => hx (Or.inr q)
  have h0 : ¬ i < 0 := fun q => hx (Or.inl q)
  obtain ⟨r', hr', cellV, g1, g2, g3, -⟩ := hP k1 _ (hw_at hv)
  have hcls := (C.K.1 ci r hc).2
  obtain ⟨kA, comp, k1', k2', k3', -⟩ := (C.K.2 3 _ rfl).2
  rw [← hr] at k3'
  have hcomp : comp = (eD E).1 ci := Option.some.inj (k3'.symm.trans hcls.1)
  subst hcomp
  obtain ⟨kC, hkC, -⟩ := hcls.2
  refine W.aast C.x C.b (hP k0 _ (hw_at hh)) (fun q h => by cases h) (fun h => by cases h) k1' k2' rfl hkC ⟨h0, by show _ < (arrV _ _ _).slots.size; rw [arrV_size]; exact hlt⟩ g1 (fun q h => by rw [g3] at h; cases h) (by rw [g2]; exact hkC) (by rw [g2]; exact va_assign hcls) rfl rfl hd fun H1 e1 z1 oq => ?_
  have hP' : va_P (eD E) vwCl (hw (eB E) (h.set k0 (.inl (eH E, n, .inr (.inr (.inr (.inr (va_up f i.toNatClampNeg (some (eB E + k1)))))))))) H1 := by
    rw [← hw_set]
    refine hP.set hD (hw_at hh) ?_ oq
    show H1[_]? = some (vp_cell _ _)
    rw [e1, vp_cell_q, vp_cell_q, arrV_store]
    congr 2
    funext q
    by_cases hq : q = i.toNatClampNeg
    · subst hq
      simp [updV, va_up, va_rf]
    · simp [updV, va_up, hq]
  exact k p e R s m args below meth c C H1 _ cells slots ls (fun hy => by rw [z1, hz hy, List.length_set]) hP' (hS.put z1 oq (hD.2 k0 _ (hw_at hh))) hl hcc hss
theorem s_new {ci n i : Nat} {Cn : String} {T : u_T} {ty0 : Nat → FieldType} {fs : List Value} (hd : decode M.2.1 pc = .ok (.new i, 3)) (hq : pc + 3 = q) (hy : y = true) (hc : vwCl[ci]? = some (Cn, T, n)) (hin : ∀ w ∈ u_ws Cn T n, w ∈ TB) (hty : ∀ k, k < n → parseFieldDescriptor (T k).2.2.1 = some (ty0 k)) (hlk : Cond.classLink M.1.cls i Cn ∈ TB) (hi : Cond.instantiable Cn n ∈ TB) (hini : Cond.initialized Cn ∈ TB) (hfs : ∀ j, j < n → defaultValue (ty0 j) = vp_V fs j)
    (k : SA E M y z mc ms q lv (.ref (eB E + h.length) :: st) (h ++ [.inr (ci, fs)]) Q) : SA E M y z (mc + 1) (ms + n) pc lv st h Q := by
  intro p e R s m args below meth c C H locs cells slots ls hz hP hS hl hcc hss
  subst hq
  have hKn := C.K.1 ci _ hc
  refine W.newcK C.x C.b C.o (C.ts _ hlk) (C.ts _ hi) (C.ts _ hini) rfl hd (by omega) (by omega) hKn.2.1 rfl fun H1 kC hkC e1 z1 o1 => ?_
  have hk : ∀ (k : Nat) (x : Nat × va_E), (hw (eB E) h)[k]? = some x → H1[x.1]? = H[x.1]? := fun k x hx => o1 x.1 ((hP k x hx).lt)
  have hsz := hz hy
  have hP' : va_P (eD E) vwCl (hw (eB E) (h ++ [.inr (ci, fs)])) H1 := by
    rw [← hw_push]
    refine (hP.kept hk).app (fun k x hx => ?_)
    have hz : k < 1 := (List.getElem?_eq_some_iff.mp hx).1
    rw [show k = 0 by omega] at hx
    cases hx
    rw [hsz] at e1
    exact ⟨_, hc, (u_born ty0 C.ts hin hKn hkC e1 hty).to hfs⟩
  have hS' : va_S (eA E) s.heap H1 locs := ⟨Nat.le_trans hS.1 (by omega), fun x h1 h2 => (o1 x (Nat.lt_of_lt_of_le h1 hS.1)).trans (hS.2.1 x h1 h2), hS.2.2⟩
  have K := k p e R s m args below meth c C H1 locs (cells + 1) (slots + n) ls (fun _ => by rw [z1, hsz, List.length_append]; rfl) hP' hS' hl (by omega) (by omega)
  rw [show cells + 1 + mc = cells + (mc + 1) by omega, show slots + n + ms = slots + (ms + n) by omega, ← hsz] at K
  exact K
theorem s_newi {n : Nat} {x : Int32} (hd : decode M.2.1 pc = .ok (.newarray .int, 2)) (hq : pc + 2 = q) (hy : y = true) (hlk : Cond.arrayClass .int ∈ TB) (hx : ¬ x < 0) (hn : x.toNatClampNeg = n) (hb : n * componentBytes .int ≤ 536870912)
    (k : SA E M y z mc ms q lv (.ref (eB E + h.length) :: st) (h ++ [.inl (eI E, n, .inl (fun _ => 0))]) Q) : SA E M y z (mc + 1) (ms + n) pc lv (.int x :: st) h Q := by
  intro p e R s m args below meth c C H locs cells slots ls hz hP hS hl hcc hss
  subst hq
  refine va_newaK (atype := .int) C.x C.b (C.ts _ hlk) rfl hd rfl hx hn hb (by omega) (by omega) rfl fun H1 cA e1 z1 o1 hAr hNm => ?_
  have hcA : cA = eI E := Option.some.inj (hNm.symm.trans (C.K.2 0 _ rfl).2)
  subst hcA
  have hk : ∀ (k : Nat) (x : Nat × va_E), (hw (eB E) h)[k]? = some x → H1[x.1]? = H[x.1]? := fun k x hx => o1 x.1 ((hP k x hx).lt)
  have hsz := hz hy
  have hP' : va_P (eD E) vwCl (hw (eB E) (h ++ [.inl (eI E, n, .inl (fun _ => 0))])) H1 := by
    rw [← hw_push]
    refine (hP.kept hk).app (fun k x hx => ?_)
    have hz : k < 1 := (List.getElem?_eq_some_iff.mp hx).1
    rw [show k = 0 by omega] at hx
    cases hx
    rw [hsz] at e1
    show H1[_]? = some (vp_cell _ _)
    rw [vp_cell_i]
    exact e1
  have hS' : va_S (eA E) s.heap H1 locs := ⟨Nat.le_trans hS.1 (by omega), fun x h1 h2 => (o1 x (Nat.lt_of_lt_of_le h1 hS.1)).trans (hS.2.1 x h1 h2), hS.2.2⟩
  have K := k p e R s m args below meth c C H1 locs (cells + 1) (slots + n) ls (fun _ => by rw [z1, hsz, List.length_append]; rfl) hP' hS' hl (by omega) (by omega)
  rw [show cells + 1 + mc = cells + (mc + 1) by omega, show slots + n + ms = slots + (ms + n) by omega, ← hsz] at K
  exact K
theorem s_newb {n : Nat} {x : Int32} (hd : decode M.2.1 pc = .ok (.newarray .byte, 2)) (hq : pc + 2 = q) (hy : y = true) (hlk : Cond.arrayClass .byte ∈ TB) (hx : ¬ x < 0) (hn : x.toNatClampNeg = n) (hb : n * componentBytes .byte ≤ 536870912)
    (k : SA E M y z mc ms q lv (.ref (eB E + h.length) :: st) (h ++ [.inl (eY E, n, .inl (fun _ => 0))]) Q) : SA E M y z (mc + 1) (ms + n) pc lv (.int x :: st) h Q := by
  intro p e R s m args below meth c C H locs cells slots ls hz hP hS hl hcc hss
  subst hq
  refine va_newaK (atype := .byte) C.x C.b (C.ts _ hlk) rfl hd rfl hx hn hb (by omega) (by omega) rfl fun H1 cA e1 z1 o1 hAr hNm => ?_
  have hcA : cA = eY E := Option.some.inj (hNm.symm.trans (C.K.2 1 _ rfl).2)
  subst hcA
  have hk : ∀ (k : Nat) (x : Nat × va_E), (hw (eB E) h)[k]? = some x → H1[x.1]? = H[x.1]? := fun k x hx => o1 x.1 ((hP k x hx).lt)
  have hsz := hz hy
  have hP' : va_P (eD E) vwCl (hw (eB E) (h ++ [.inl (eY E, n, .inl (fun _ => 0))])) H1 := by
    rw [← hw_push]
    refine (hP.kept hk).app (fun k x hx => ?_)
    have hz : k < 1 := (List.getElem?_eq_some_iff.mp hx).1
    rw [show k = 0 by omega] at hx
    cases hx
    rw [hsz] at e1
    show H1[_]? = some (vp_cell _ _)
    rw [vp_cell_i]
    exact e1
  have hS' : va_S (eA E) s.heap H1 locs := ⟨Nat.le_trans hS.1 (by omega), fun x h1 h2 => (o1 x (Nat.lt_of_lt_of_le h1 hS.1)).trans (hS.2.1 x h1 h2), hS.2.2⟩
  have K := k p e R s m args below meth c C H1 locs (cells + 1) (slots + n) ls (fun _ => by rw [z1, hsz, List.length_append]; rfl) hP' hS' hl (by omega) (by omega)
  rw [show cells + 1 + mc = cells + (mc + 1) by omega, show slots + n + ms = slots + (ms + n) by omega, ← hsz] at K
  exact K
theorem s_newc {n : Nat} {x : Int32} (hd : decode M.2.1 pc = .ok (.newarray .char, 2)) (hq : pc + 2 = q) (hy : y = true) (hlk : Cond.arrayClass .char ∈ TB) (hx : ¬ x < 0) (hn : x.toNatClampNeg = n) (hb : n * componentBytes .char ≤ 536870912)
    (k : SA E M y z mc ms q lv (.ref (eB E + h.length) :: st) (h ++ [.inl (eC E, n, .inl (fun _ => 0))]) Q) : SA E M y z (mc + 1) (ms + n) pc lv (.int x :: st) h Q := by
  intro p e R s m args below meth c C H locs cells slots ls hz hP hS hl hcc hss
  subst hq
  refine va_newaK (atype := .char) C.x C.b (C.ts _ hlk) rfl hd rfl hx hn hb (by omega) (by omega) rfl fun H1 cA e1 z1 o1 hAr hNm => ?_
  have hcA : cA = eC E := Option.some.inj (hNm.symm.trans (C.K.2 2 _ rfl).2)
  subst hcA
  have hk : ∀ (k : Nat) (x : Nat × va_E), (hw (eB E) h)[k]? = some x → H1[x.1]? = H[x.1]? := fun k x hx => o1 x.1 ((hP k x hx).lt)
  have hsz := hz hy
  have hP' : va_P (eD E) vwCl (hw (eB E) (h ++ [.inl (eC E, n, .inl (fun _ => 0))])) H1 := by
    rw [← hw_push]
    refine (hP.kept hk).app (fun k x hx => ?_)
    have hz : k < 1 := (List.getElem?_eq_some_iff.mp hx).1
    rw [show k = 0 by omega] at hx
    cases hx
    rw [hsz] at e1
    show H1[_]? = some (vp_cell _ _)
    rw [vp_cell_i]
    exact e1
  have hS' : va_S (eA E) s.heap H1 locs := ⟨Nat.le_trans hS.1 (by omega), fun x h1 h2 => (o1 x (Nat.lt_of_lt_of_le h1 hS.1)).trans (hS.2.1 x h1 h2), hS.2.2⟩
  have K := k p e R s m args below meth c C H1 locs (cells + 1) (slots + n) ls (fun _ => by rw [z1, hsz, List.length_append]; rfl) hP' hS' hl (by omega) (by omega)
  rw [show cells + 1 + mc = cells + (mc + 1) by omega, show slots + n + ms = slots + (ms + n) by omega, ← hsz] at K
  exact K
theorem s_anew {i n : Nat} {x : Int32} (hd : decode M.2.1 pc = .ok (.anewarray i, 3)) (hq : pc + 3 = q) (hy : y = true) (hlk : Cond.classLink M.1.cls i "StarCrew$Sheet" ∈ TB) (hx : ¬ x < 0) (hn : x.toNatClampNeg = n) (hb : n * 4 ≤ 536870912)
    (k : SA E M y z mc ms q lv (.ref (eB E + h.length) :: st) (h ++ [.inl (eH E, n, .inr (.inr (.inr (.inr (fun _ => none)))))]) Q) : SA E M y z (mc + 1) (ms + n) pc lv (.int x :: st) h Q := by
  intro p e R s m args below meth c C H locs cells slots ls hz hP hS hl hcc hss
  subst hq
  subst hn
  refine W.anew C.x C.b C.o (C.ts _ hlk) (va_AO.use C.ao) rfl hd rfl hx hb (by omega) (by omega) fun cA kA comp f1 f2 f3 f4 => ?_
  have hcA : cA = eH E := by
    obtain ⟨_, _, _, _, _, k4⟩ := (C.K.2 3 _ rfl).2
    exact Option.some.inj (f1.symm.trans k4)
  subst hcA
  generalize hH1 : H.push ({ cls := eH E, slots := Array.replicate x.toNatClampNeg .null, vm := .none } : Cell) = H1
  have z1 : H1.size = H.size + 1 := by rw [← hH1, Array.size_push]
  have e1 : H1[H.size]? = some (arrV (eH E) x.toNatClampNeg (fun _ => .null)) := by rw [← hH1, Array.getElem?_push_size, ← arrV_new]
  have o1 : ∀ q : Nat, q < H.size → H1[q]? = H[q]? := fun q hq => by rw [← hH1, Array.getElem?_push, if_neg (Nat.ne_of_lt hq)]
  have hk : ∀ (k : Nat) (x : Nat × va_E), (hw (eB E) h)[k]? = some x → H1[x.1]? = H[x.1]? := fun k x hx => o1 x.1 ((hP k x hx).lt)
  have hsz := hz hy
  have hP' : va_P (eD E) vwCl (hw (eB E) (h ++ [.inl (eH E, x.toNatClampNeg, .inr (.inr (.inr (.inr (fun _ => none)))))])) H1 := by
    rw [← hw_push]
    refine (hP.kept hk).app (fun k x hx => ?_)
    have hz : k < 1 := (List.getElem?_eq_some_iff.mp hx).1
    rw [show k = 0 by omega] at hx
    cases hx
    rw [hsz] at e1
    show H1[_]? = some (vp_cell _ _)
    rw [vp_cell_q]
    exact e1
  have hS' : va_S (eA E) s.heap H1 locs := ⟨Nat.le_trans hS.1 (by omega), fun x h1 h2 => (o1 x (Nat.lt_of_lt_of_le h1 hS.1)).trans (hS.2.1 x h1 h2), hS.2.2⟩
  have K := k p e R s m args below meth c C H1 locs (cells + 1) (slots + x.toNatClampNeg) ls (fun _ => by rw [z1, hsz, List.length_append]; rfl) hP' hS' hl (by omega) (by omega)
  rw [show cells + 1 + mc = cells + (mc + 1) by omega, show slots + x.toNatClampNeg + ms = slots + (ms + x.toNatClampNeg) by omega, ← hsz] at K
  exact K
theorem s_iret {v : Int32} (hd : decode M.2.1 pc = .ok (.ireturn, 1)) (hr : M.2.2.2.1 = some .int) (hyz : z = true → y = true) (hQ : Q (some (.int v)) h) : SA E M y z mc ms pc lv ([.int v]) h Q := by
  intro p e R s m args below meth c C H locs cells slots ls hz hP hS hl hcc hss
  refine W.widen (k := cells + mc) (n := slots + ms) (Nat.le_add_right _ _) (Nat.le_add_right _ _) ?_
  exact W.iret C.x C.b (by rw [C.r, hr]) (fun t ht _ => ⟨some (.int v), h, rfl, hQ, fun hz2 => by rw [ht]; exact hz (hyz hz2), by rw [ht]; exact hP, hS.F ht⟩) hS.2.2 hd C.lk
theorem s_zret {v : Int32} {ty : FieldType} (hd : decode M.2.1 pc = .ok (.ireturn, 1)) (hr : M.2.2.2.1 = some ty) (hn : narrow ty (.int v) = .int v) (hyz : z = true → y = true) (hQ : Q (some (.int v)) h) : SA E M y z mc ms pc lv ([.int v]) h Q := by
  intro p e R s m args below meth c C H locs cells slots ls hz hP hS hl hcc hss
  refine W.widen (k := cells + mc) (n := slots + ms) (Nat.le_add_right _ _) (Nat.le_add_right _ _) ?_
  exact W.zret C.x C.b (by rw [C.r, hr]) hn (fun t ht _ => ⟨some (.int v), h, rfl, hQ, fun hz2 => by rw [ht]; exact hz (hyz hz2), by rw [ht]; exact hP, hS.F ht⟩) hS.2.2 hd C.lk
theorem s_lret {v : Int64} (hd : decode M.2.1 pc = .ok (.lreturn, 1)) (hr : M.2.2.2.1 = some .long) (hyz : z = true → y = true) (hQ : Q (some (.long v)) h) : SA E M y z mc ms pc lv ([.long v]) h Q := by
  intro p e R s m args below meth c C H locs cells slots ls hz hP hS hl hcc hss
  refine W.widen (k := cells + mc) (n := slots + ms) (Nat.le_add_right _ _) (Nat.le_add_right _ _) ?_
  exact W.lret C.x C.b (by rw [C.r, hr]) (fun t ht _ => ⟨some (.long v), h, rfl, hQ, fun hz2 => by rw [ht]; exact hz (hyz hz2), by rw [ht]; exact hP, hS.F ht⟩) hS.2.2 hd C.lk
theorem s_vret  (hd : decode M.2.1 pc = .ok (.return_, 1)) (hr : M.2.2.2.1 = none) (hyz : z = true → y = true) (hQ : Q (none) h) : SA E M y z mc ms pc lv ([]) h Q := by
  intro p e R s m args below meth c C H locs cells slots ls hz hP hS hl hcc hss
  refine W.widen (k := cells + mc) (n := slots + ms) (Nat.le_add_right _ _) (Nat.le_add_right _ _) ?_
  exact W.vret C.x C.b (by rw [C.r, hr]) (fun t ht _ => ⟨none, h, rfl, hQ, fun hz2 => by rw [ht]; exact hz (hyz hz2), by rw [ht]; exact hP, hS.F ht⟩) hS.2.2 hd C.lk
theorem s_aret {v : Value} {rt : FieldType} (hd : decode M.2.1 pc = .ok (.areturn, 1)) (hr : M.2.2.2.1 = some rt) (hrt : (∃ n, rt = .object n) ∨ ∃ t, rt = .array t) (hv : v = .null ∨ ∃ a, v = .ref a) (hyz : z = true → y = true) (hQ : Q (some v) h) : SA E M y z mc ms pc lv ([v]) h Q := by
  intro p e R s m args below meth c C H locs cells slots ls hz hP hS hl hcc hss
  refine W.widen (k := cells + mc) (n := slots + ms) (Nat.le_add_right _ _) (Nat.le_add_right _ _) ?_
  exact W.aret C.x C.b (by rw [C.r, hr]) hrt hv (fun t ht _ => ⟨some v, h, rfl, hQ, fun hz2 => by rw [ht]; exact hz (hyz hz2), by rw [ht]; exact hP, hS.F ht⟩) hS.2.2 hd C.lk
theorem s_objInit {i a : Nat} (hd : decode M.2.1 pc = .ok (.invokespecial i, 3)) (hq : pc + 3 = q) (hlk : Cond.methodLink M.1.cls i objectInit ∈ TB) (hin : Cond.instanceMethod objectInit ∈ TB) (hco : Cond.code objectInit ⟨#[0xb1]⟩ 1 none ∈ TB) (hfr : 1 ≤ M.2.2.2.2.1) (hlo : 12 + (st.map fun v => v.category).sum ≤ M.2.2.2.2.2) (k : SA E M y z mc ms q lv st h Q) : SA E M y z mc ms pc lv (.ref a :: st) h Q := by
  intro p e R s m args below meth c C H locs cells slots ls hz hP hS hl hcc hss
  subst hq
  have h1 := C.fr
  have h2 := C.lo
  exact W.objInit C.x C.b C.o (C.ts _ hlk) (C.ts _ hin) (C.ts _ hco) rfl (by rw [C.ml]; exact hl.1) rfl hd (by omega) (by show _ ≤ _; simp only [JFrame.monitorRoom]; omega) (k p e R s m args below meth c C H locs cells slots ls hz hP hS hl hcc hss)
end SX
/-- what a call takes of the callee alone -/
def okN (N : MI) (n : Nat) : Prop := Cond.code N.1 N.2.1 N.2.2.1 N.2.2.2.1 ∈ TB ∧ Cond.initialized N.1.cls ∈ TB ∧ (N.1.cls ≠ "java/lang/invoke/MethodHandle" ∧ N.1.cls ≠ "java/lang/invoke/VarHandle" ∧ (parseMethodDescriptor N.1.desc).map (fun d => d.parameters.length) = some n) ∧ plainName N.1.cls = true
def okV (N : MI) : Prop := Cond.instanceMethod N.1 ∈ TB ∧ Cond.selects N.1.cls N.1 N.1 ∈ TB
/-- the room of a call -/
def okR (M N : MI) : Prop := N.2.2.2.2.1 + 1 ≤ M.2.2.2.2.1 ∧ 8 + (N.2.2.1 + 11) + N.2.2.2.2.2 ≤ M.2.2.2.2.2
section SC
variable {E : EV} {M N : MI} {y z z1 : Bool} {mc ms mc1 ms1 pc q n i : Nat} {lv : List (Nat × Value)} {st stk : List Value} {h : List va_E} {Q : Option Value → List va_E → Prop}
theorem s_callV {a : Nat} (As : List Value) (hd : decode M.2.1 pc = .ok (.invokevirtual i, 3)) (hq : pc + 3 = q) (hN : okN N n) (hV : okV N) (hlk : Cond.methodLink M.1.cls i N.1 ∈ TB) (hR : okR M N) (hrc : Rc E h a N.1.cls) (hn : As.length = n) (hst : stk = As.reverse ++ .ref a :: st) (hlg : (lg_sl (.ref a :: As)).length ≤ N.2.2.1) (h8 : (st.map fun v => v.category).sum ≤ 8)
    (k : SA E N y z1 mc1 ms1 0 (lv_args 0 (.ref a :: As)) [] h (fun v h' => SA E M z1 z mc ms q lv (v.toList ++ st) h' Q)) : SA E M y z (mc1 + mc) (ms1 + ms) pc lv stk h Q := by
  intro p e R s m args below meth c C H locs cells slots ls hz hP hS hl hcc hss
  subst hq
  subst hst
  refine m_back (va_runV (nL := M.2.2.1) (Ts := TB) (own := M.1.cls) (As := As) (rest := st) ⟨C.x, C.b, C.ml, C.o, C.ts⟩ (k.met hlg hN.2.2.2) ⟨(callB_of (own := M.1.cls) (bytes := N.2.1) (maxL := N.2.2.1) (ret := N.2.2.2.1) (rm := rmOf N mc1 ms1) n C.ts (TB_good hN.1) rfl rfl rfl (C.ts _ hN.2.1) (C.ts _ hlk) hN.2.2.1 ⟨Nat.le_trans hR.1 C.fr, Nat.le_trans hR.2 C.lo⟩), C.ts _ hV.1, C.ts _ hV.2⟩ ⟨PB_blind E y h _, hrc.cell C hP hS, fun U hU hW => ⟨rfl, PB_at C hz hP hS U hU hW⟩⟩ rfl hn hl.1 rfl (lv_room h8) hd ⟨by omega, by omega⟩) hS (fun v h' H1 locs1 hK hz1 hP1 hS1 => ?_)
  have K := hK p e R s m args below meth c C H1 locs1 (cells + mc1) (slots + ms1) ls hz1 hP1 hS1 hl (by omega) (by omega)
  rw [show cells + mc1 + mc = cells + (mc1 + mc) by omega, show slots + ms1 + ms = slots + (ms1 + ms) by omega] at K
  exact K
theorem s_callS (As : List Value) (hd : decode M.2.1 pc = .ok (.invokestatic i, 3)) (hq : pc + 3 = q) (hN : okN N n) (hV : Cond.static N.1 ∈ TB) (hlk : Cond.methodLink M.1.cls i N.1 ∈ TB) (hR : okR M N) (hn : As.length = n) (hst : stk = As.reverse ++ st) (hlg : (lg_sl (As)).length ≤ N.2.2.1) (h8 : (st.map fun v => v.category).sum ≤ 8)
    (k : SA E N y z1 mc1 ms1 0 (lv_args 0 (As)) [] h (fun v h' => SA E M z1 z mc ms q lv (v.toList ++ st) h' Q)) : SA E M y z (mc1 + mc) (ms1 + ms) pc lv stk h Q := by
  intro p e R s m args below meth c C H locs cells slots ls hz hP hS hl hcc hss
  subst hq
  subst hst
  refine m_back (va_runS (nL := M.2.2.1) (Ts := TB) (own := M.1.cls) (As := As) (rest := st) ⟨C.x, C.b, C.ml, C.o, C.ts⟩ (k.met hlg hN.2.2.2) ⟨(callB_of (own := M.1.cls) (bytes := N.2.1) (maxL := N.2.2.1) (ret := N.2.2.2.1) (rm := rmOf N mc1 ms1) n C.ts (TB_good hN.1) rfl rfl rfl (C.ts _ hN.2.1) (C.ts _ hlk) hN.2.2.1 ⟨Nat.le_trans hR.1 C.fr, Nat.le_trans hR.2 C.lo⟩), C.ts _ hV⟩ ⟨PB_blind E y h _, fun U hU hW => ⟨rfl, PB_at C hz hP hS U hU hW⟩⟩ rfl hn hl.1 rfl (lv_room h8) hd ⟨by omega, by omega⟩) hS (fun v h' H1 locs1 hK hz1 hP1 hS1 => ?_)
  have K := hK p e R s m args below meth c C H1 locs1 (cells + mc1) (slots + ms1) ls hz1 hP1 hS1 hl (by omega) (by omega)
  rw [show cells + mc1 + mc = cells + (mc1 + mc) by omega, show slots + ms1 + ms = slots + (ms1 + ms) by omega] at K
  exact K
theorem s_callI {a : Nat} (As : List Value) (hd : decode M.2.1 pc = .ok (.invokespecial i, 3)) (hq : pc + 3 = q) (hN : okN N n) (hV : Cond.instanceMethod N.1 ∈ TB) (hnm : N.1.name = "<init>") (hrt : N.2.2.2.1 = none) (hlk : Cond.methodLink M.1.cls i N.1 ∈ TB) (hR : okR M N) (hn : As.length = n) (hst : stk = As.reverse ++ .ref a :: st) (hlg : (lg_sl (.ref a :: As)).length ≤ N.2.2.1) (h8 : (st.map fun v => v.category).sum ≤ 8)
    (k : SA E N y z1 mc1 ms1 0 (lv_args 0 (.ref a :: As)) [] h (fun v h' => SA E M z1 z mc ms q lv (v.toList ++ st) h' Q)) : SA E M y z (mc1 + mc) (ms1 + ms) pc lv stk h Q := by
  intro p e R s m args below meth c C H locs cells slots ls hz hP hS hl hcc hss
  subst hq
  subst hst
  refine m_back (va_runI (nL := M.2.2.1) (Ts := TB) (own := M.1.cls) (As := As) (rest := st) ⟨C.x, C.b, C.ml, C.o, C.ts⟩ (k.met hlg hN.2.2.2) ⟨by have K0 := (callB_of (own := M.1.cls) (bytes := N.2.1) (maxL := N.2.2.1) (ret := N.2.2.2.1) (rm := rmOf N mc1 ms1) n C.ts (TB_good hN.1) rfl rfl rfl (C.ts _ hN.2.1) (C.ts _ hlk) hN.2.2.1 ⟨Nat.le_trans hR.1 C.fr, Nat.le_trans hR.2 C.lo⟩); rw [hrt] at K0; exact K0, hnm, C.ts _ hV⟩ ⟨PB_blind E y h _, fun U hU hW => ⟨rfl, PB_at C hz hP hS U hU hW⟩⟩ rfl hn hl.1 rfl (lv_room h8) hd ⟨by omega, by omega⟩) hS (fun v h' H1 locs1 hK hz1 hP1 hS1 => ?_)
  have K := hK p e R s m args below meth c C H1 locs1 (cells + mc1) (slots + ms1) ls hz1 hP1 hS1 hl (by omega) (by omega)
  rw [show cells + mc1 + mc = cells + (mc1 + mc) by omega, show slots + ms1 + ms = slots + (ms1 + ms) by omega] at K
  exact K
theorem s_callSN (As : List Value) (hd : decode M.2.1 pc = .ok (.invokestatic i, 3)) (hq : pc + 3 = q) (hN : okN N n) {host : String} (hV : Cond.static N.1 ∈ TB) (hlk : Cond.methodLinkNest M.1.cls i N.1 host ∈ NB) (hR : okR M N) (hn : As.length = n) (hst : stk = As.reverse ++ st) (hlg : (lg_sl (As)).length ≤ N.2.2.1) (h8 : (st.map fun v => v.category).sum ≤ 8)
    (k : SA E N y z1 mc1 ms1 0 (lv_args 0 (As)) [] h (fun v h' => SA E M z1 z mc ms q lv (v.toList ++ st) h' Q)) : SA E M y z (mc1 + mc) (ms1 + ms) pc lv stk h Q := by
  intro p e R s m args below meth c C H locs cells slots ls hz hP hS hl hcc hss
  subst hq
  subst hst
  refine m_back (va_runSN (nL := M.2.2.1) (Ts := TB) (own := M.1.cls) (As := As) (rest := st) ⟨C.x, C.b, C.ml, C.o, C.ts⟩ (k.met hlg hN.2.2.2) ⟨(va_cnB (own := M.1.cls) (bytes := N.2.1) (maxL := N.2.2.1) (ret := N.2.2.2.1) (rm := rmOf N mc1 ms1) n C.ts (TB_good hN.1) rfl rfl rfl (C.nb _ hlk) (C.ts _ hN.2.1) hN.2.2.1 ⟨Nat.le_trans hR.1 C.fr, Nat.le_trans hR.2 C.lo⟩), C.ts _ hV, trivial⟩ ⟨PB_blind E y h _, fun U hU hW => ⟨rfl, PB_at C hz hP hS U hU hW⟩⟩ rfl hn hl.1 rfl (lv_room h8) hd ⟨by omega, by omega⟩) hS (fun v h' H1 locs1 hK hz1 hP1 hS1 => ?_)
  have K := hK p e R s m args below meth c C H1 locs1 (cells + mc1) (slots + ms1) ls hz1 hP1 hS1 hl (by omega) (by omega)
  rw [show cells + mc1 + mc = cells + (mc1 + mc) by omega, show slots + ms1 + ms = slots + (ms1 + ms) by omega] at K
  exact K
theorem s_callIN {a : Nat} (As : List Value) (hd : decode M.2.1 pc = .ok (.invokespecial i, 3)) (hq : pc + 3 = q) (hN : okN N n) {host : String} (hV : Cond.instanceMethod N.1 ∈ TB) (hnm : N.1.name = "<init>") (hrt : N.2.2.2.1 = none) (hlk : Cond.methodLinkNest M.1.cls i N.1 host ∈ NB) (hR : okR M N) (hn : As.length = n) (hst : stk = As.reverse ++ .ref a :: st) (hlg : (lg_sl (.ref a :: As)).length ≤ N.2.2.1) (h8 : (st.map fun v => v.category).sum ≤ 8)
    (k : SA E N y z1 mc1 ms1 0 (lv_args 0 (.ref a :: As)) [] h (fun v h' => SA E M z1 z mc ms q lv (v.toList ++ st) h' Q)) : SA E M y z (mc1 + mc) (ms1 + ms) pc lv stk h Q := by
  intro p e R s m args below meth c C H locs cells slots ls hz hP hS hl hcc hss
  subst hq
  subst hst
  refine m_back (va_runIN (nL := M.2.2.1) (Ts := TB) (own := M.1.cls) (As := As) (rest := st) ⟨C.x, C.b, C.ml, C.o, C.ts⟩ (k.met hlg hN.2.2.2) ⟨by have K0 := (va_cnB (own := M.1.cls) (bytes := N.2.1) (maxL := N.2.2.1) (ret := N.2.2.2.1) (rm := rmOf N mc1 ms1) n C.ts (TB_good hN.1) rfl rfl rfl (C.nb _ hlk) (C.ts _ hN.2.1) hN.2.2.1 ⟨Nat.le_trans hR.1 C.fr, Nat.le_trans hR.2 C.lo⟩); rw [hrt] at K0; exact K0, hnm, C.ts _ hV⟩ ⟨PB_blind E y h _, fun U hU hW => ⟨rfl, PB_at C hz hP hS U hU hW⟩⟩ rfl hn hl.1 rfl (lv_room h8) hd ⟨by omega, by omega⟩) hS (fun v h' H1 locs1 hK hz1 hP1 hS1 => ?_)
  have K := hK p e R s m args below meth c C H1 locs1 (cells + mc1) (slots + ms1) ls hz1 hP1 hS1 hl (by omega) (by omega)
  rw [show cells + mc1 + mc = cells + (mc1 + mc) by omega, show slots + ms1 + ms = slots + (ms1 + ms) by omega] at K
  exact K
theorem s_copy {k0 k1 n0 n1 : Nat} {f g : Nat → Int32} {sp dp w : Int32} (hd : decode M.2.1 pc = .ok (.invokestatic i, 3)) (hq : pc + 3 = q) (hlk : Cond.methodLink M.1.cls i arraycopyName ∈ TB) (hnat : Cond.native arraycopyName ∈ TB) (hst : Cond.static arraycopyName ∈ TB) (hini : Cond.initialized "java/lang/System" ∈ TB) (h0 : h[k0]? = some (.inl (eI E, n0, .inl f))) (h1 : h[k1]? = some (.inl (eI E, n1, .inl g))) (hsp : ¬ sp < 0) (hdp : ¬ dp < 0) (hw : ¬ w < 0) (h4 : sp.toNatClampNeg + w.toNatClampNeg ≤ n0) (h5 : dp.toNatClampNeg + w.toNatClampNeg ≤ n1) (hfr : 1 ≤ M.2.2.2.2.1) (hlo : (st.map fun v => v.category).sum + (nativeFrameWords "java/lang/System" "arraycopy" 5 + 11) ≤ M.2.2.2.2.2)
    (k : SA E M false z mc ms q lv st (h.set k1 (.inl (eI E, n1, .inl (va_cpy f g sp.toNatClampNeg dp.toNatClampNeg w.toNatClampNeg)))) Q) : SA E M false z mc ms pc lv (.int w :: .int dp :: .ref (eB E + k1) :: .int sp :: .ref (eB E + k0) :: st) h Q := by
  intro p e R s m args below meth c C H locs cells slots ls hz hP hS hl hcc hss
  subst hq
  refine va_copyi C.x C.b (by rw [C.ml]; exact hl.1.symm) C.o (C.ts _ hlk) (C.ts _ hnat) (C.ts _ hst) (C.ts _ hini) C.K hP (hw_D E h) hS k0 k1 0 0 (hw_at h0) (hw_at h1) rfl rfl rfl hsp hdp hw h4 h5 (fun _ _ => rfl) (Nat.le_trans hfr C.fr) (Nat.le_trans hlo C.lo) hd (fun H1 locs1 hP1 _ hS1 => ?_)
  rw [hw_set] at hP1
  exact k p e R s m args below meth c C H1 locs1 cells slots ls (fun hy => by cases hy) hP1 hS1 hl hcc hss
theorem SA.weak (k : SA E M false z mc ms pc lv st h Q) : SA E M true z mc ms pc lv st h Q := fun p e R s m args below meth c C H locs cells slots ls _ hP hS hl hcc hss => k p e R s m args below meth c C H locs cells slots ls (fun hy => by cases hy) hP hS hl hcc hss
theorem SA.more {mc' ms' : Nat} (h1 : mc ≤ mc') (h2 : ms ≤ ms') (k : SA E M y z mc ms pc lv st h Q) : SA E M y z mc' ms' pc lv st h Q := by
  intro p e R s m args below meth c C H locs cells slots ls hz hP hS hl hcc hss
  have K := k p e R s m args below meth c C H locs (cells + (mc' - mc)) (slots + (ms' - ms)) ls hz hP hS hl (by omega) (by omega)
  rw [show cells + (mc' - mc) + mc = cells + mc' by omega, show slots + (ms' - ms) + ms = slots + ms' by omega] at K
  exact W.widen (Nat.le_add_right _ _) (Nat.le_add_right _ _) K
theorem SA.mono {Q' : Option Value → List va_E → Prop} (hQ : ∀ v h', Q v h' → Q' v h') (k : SA E M y z mc ms pc lv st h Q) : SA E M y z mc ms pc lv st h Q' := by
  intro p e R s m args below meth c C H locs cells slots ls hz hP hS hl hcc hss
  intro T hT X
  obtain ⟨t, a, o, b1, b2, ⟨v, h', c1, c2, c3⟩, b4⟩ := k p e R s m args below meth c C H locs cells slots ls hz hP hS hl hcc hss T hT X
  exact ⟨t, a, o, b1, b2, ⟨v, h', c1, hQ v h' c2, c3⟩, b4⟩
end SC
end
