section
-- ===== PART A: goes FIRST, ahead of the names: the tables' words, and 'selects' of the private methods out of them =====
/-- a private method of a class that the tables say can be made, by its rows of tables_1 -/
def lw_okq (q : MethodName × Nat) : Prop := (q.1.cls ≠ "java/lang/invoke/MethodHandle" ∧ q.1.cls ≠ "java/lang/invoke/VarHandle") ∧ Cond.instantiable q.1.cls q.2 ∈ tables_1 ∧ Cond.privateMethod q.1 ∈ tables_1 ∧ Cond.instanceMethod q.1 ∈ tables_1
theorem lw_p0 : lw_okq (⟨"WeatherDisguise$Tape", "skipBlanks", "()V"⟩, 4) := ⟨⟨by decide +kernel, by decide +kernel⟩, List.mem_of_getElem? (i := 82) (by decide +kernel), List.mem_of_getElem? (i := 248) (by decide +kernel), List.mem_of_getElem? (i := 249) (by decide +kernel)⟩
theorem lw_p1 : lw_okq (⟨"WeatherDisguise$Tape", "tellOne", "(LWeatherDisguise$Town;)V"⟩, 4) := ⟨⟨by decide +kernel, by decide +kernel⟩, List.mem_of_getElem? (i := 82) (by decide +kernel), List.mem_of_getElem? (i := 252) (by decide +kernel), List.mem_of_getElem? (i := 253) (by decide +kernel)⟩
theorem lw_p2 : lw_okq (⟨"WeatherDisguise$Tape", "kindHere", "()I"⟩, 4) := ⟨⟨by decide +kernel, by decide +kernel⟩, List.mem_of_getElem? (i := 82) (by decide +kernel), List.mem_of_getElem? (i := 256) (by decide +kernel), List.mem_of_getElem? (i := 257) (by decide +kernel)⟩
theorem lw_p3 : lw_okq (⟨"WeatherDisguise$Tape", "isNameHere", "(Ljava/lang/String;)Z"⟩, 4) := ⟨⟨by decide +kernel, by decide +kernel⟩, List.mem_of_getElem? (i := 82) (by decide +kernel), List.mem_of_getElem? (i := 261) (by decide +kernel), List.mem_of_getElem? (i := 262) (by decide +kernel)⟩
theorem lw_p4 : lw_okq (⟨"WeatherDisguise$Tape", "endOfName", "()I"⟩, 4) := ⟨⟨by decide +kernel, by decide +kernel⟩, List.mem_of_getElem? (i := 82) (by decide +kernel), List.mem_of_getElem? (i := 265) (by decide +kernel), List.mem_of_getElem? (i := 266) (by decide +kernel)⟩
theorem lw_p5 : lw_okq (⟨"WeatherDisguise$Tape", "tellAir", "(LWeatherDisguise$Town;I)V"⟩, 4) := ⟨⟨by decide +kernel, by decide +kernel⟩, List.mem_of_getElem? (i := 82) (by decide +kernel), List.mem_of_getElem? (i := 322) (by decide +kernel), List.mem_of_getElem? (i := 323) (by decide +kernel)⟩
theorem lw_p6 : lw_okq (⟨"WeatherDisguise$Tape", "findFault", "()V"⟩, 4) := ⟨⟨by decide +kernel, by decide +kernel⟩, List.mem_of_getElem? (i := 82) (by decide +kernel), List.mem_of_getElem? (i := 326) (by decide +kernel), List.mem_of_getElem? (i := 327) (by decide +kernel)⟩
theorem lw_p7 : lw_okq (⟨"WeatherDisguise$Tape", "takeName", "(Ljava/lang/String;)V"⟩, 4) := ⟨⟨by decide +kernel, by decide +kernel⟩, List.mem_of_getElem? (i := 82) (by decide +kernel), List.mem_of_getElem? (i := 331) (by decide +kernel), List.mem_of_getElem? (i := 332) (by decide +kernel)⟩
theorem lw_p8 : lw_okq (⟨"WeatherDisguise$Tape", "number", "(II)I"⟩, 4) := ⟨⟨by decide +kernel, by decide +kernel⟩, List.mem_of_getElem? (i := 82) (by decide +kernel), List.mem_of_getElem? (i := 335) (by decide +kernel), List.mem_of_getElem? (i := 336) (by decide +kernel)⟩
theorem lw_p9 : lw_okq (⟨"WeatherDisguise$Tape", "endOfNumber", "()I"⟩, 4) := ⟨⟨by decide +kernel, by decide +kernel⟩, List.mem_of_getElem? (i := 82) (by decide +kernel), List.mem_of_getElem? (i := 339) (by decide +kernel), List.mem_of_getElem? (i := 340) (by decide +kernel)⟩
theorem lw_p10 : lw_okq (⟨"WeatherDisguise$Tape", "takesName", "(Ljava/lang/String;)Z"⟩, 4) := ⟨⟨by decide +kernel, by decide +kernel⟩, List.mem_of_getElem? (i := 82) (by decide +kernel), List.mem_of_getElem? (i := 345) (by decide +kernel), List.mem_of_getElem? (i := 346) (by decide +kernel)⟩
theorem lw_p11 : lw_okq (⟨"WeatherDisguise$Tape", "tellWet", "(LWeatherDisguise$Town;)V"⟩, 4) := ⟨⟨by decide +kernel, by decide +kernel⟩, List.mem_of_getElem? (i := 82) (by decide +kernel), List.mem_of_getElem? (i := 355) (by decide +kernel), List.mem_of_getElem? (i := 356) (by decide +kernel)⟩
theorem lw_p12 : lw_okq (⟨"WeatherDisguise$Tape", "tellLaw", "(LWeatherDisguise$Town;I)V"⟩, 4) := ⟨⟨by decide +kernel, by decide +kernel⟩, List.mem_of_getElem? (i := 82) (by decide +kernel), List.mem_of_getElem? (i := 362) (by decide +kernel), List.mem_of_getElem? (i := 363) (by decide +kernel)⟩
theorem lw_p13 : lw_okq (⟨"WeatherDisguise$Tape", "takeMark", "()V"⟩, 4) := ⟨⟨by decide +kernel, by decide +kernel⟩, List.mem_of_getElem? (i := 82) (by decide +kernel), List.mem_of_getElem? (i := 373) (by decide +kernel), List.mem_of_getElem? (i := 374) (by decide +kernel)⟩
theorem lw_p14 : lw_okq (⟨"WeatherDisguise$Town", "wayWanted", "(I)I"⟩, 10) := ⟨⟨by decide +kernel, by decide +kernel⟩, List.mem_of_getElem? (i := 25) (by decide +kernel), List.mem_of_getElem? (i := 422) (by decide +kernel), List.mem_of_getElem? (i := 423) (by decide +kernel)⟩
theorem lw_p15 : lw_okq (⟨"WeatherDisguise$Town", "wayOfFog", "()I"⟩, 10) := ⟨⟨by decide +kernel, by decide +kernel⟩, List.mem_of_getElem? (i := 25) (by decide +kernel), List.mem_of_getElem? (i := 426) (by decide +kernel), List.mem_of_getElem? (i := 427) (by decide +kernel)⟩
def lw_privs_1 : List (MethodName × Nat) := [(⟨"WeatherDisguise$Tape", "skipBlanks", "()V"⟩, 4), (⟨"WeatherDisguise$Tape", "tellOne", "(LWeatherDisguise$Town;)V"⟩, 4), (⟨"WeatherDisguise$Tape", "kindHere", "()I"⟩, 4), (⟨"WeatherDisguise$Tape", "isNameHere", "(Ljava/lang/String;)Z"⟩, 4), (⟨"WeatherDisguise$Tape", "endOfName", "()I"⟩, 4), (⟨"WeatherDisguise$Tape", "tellAir", "(LWeatherDisguise$Town;I)V"⟩, 4), (⟨"WeatherDisguise$Tape", "findFault", "()V"⟩, 4), (⟨"WeatherDisguise$Tape", "takeName", "(Ljava/lang/String;)V"⟩, 4), (⟨"WeatherDisguise$Tape", "number", "(II)I"⟩, 4), (⟨"WeatherDisguise$Tape", "endOfNumber", "()I"⟩, 4), (⟨"WeatherDisguise$Tape", "takesName", "(Ljava/lang/String;)Z"⟩, 4), (⟨"WeatherDisguise$Tape", "tellWet", "(LWeatherDisguise$Town;)V"⟩, 4), (⟨"WeatherDisguise$Tape", "tellLaw", "(LWeatherDisguise$Town;I)V"⟩, 4), (⟨"WeatherDisguise$Tape", "takeMark", "()V"⟩, 4), (⟨"WeatherDisguise$Town", "wayWanted", "(I)I"⟩, 10), (⟨"WeatherDisguise$Town", "wayOfFog", "()I"⟩, 10)]
theorem lw_r1 : ∀ q ∈ lw_privs_1, lw_okq q := List.forall_mem_cons.mpr ⟨lw_p0, List.forall_mem_cons.mpr ⟨lw_p1, List.forall_mem_cons.mpr ⟨lw_p2, List.forall_mem_cons.mpr ⟨lw_p3, List.forall_mem_cons.mpr ⟨lw_p4, List.forall_mem_cons.mpr ⟨lw_p5, List.forall_mem_cons.mpr ⟨lw_p6, List.forall_mem_cons.mpr ⟨lw_p7, List.forall_mem_cons.mpr ⟨lw_p8, List.forall_mem_cons.mpr ⟨lw_p9, List.forall_mem_cons.mpr ⟨lw_p10, List.forall_mem_cons.mpr ⟨lw_p11, List.forall_mem_cons.mpr ⟨lw_p12, List.forall_mem_cons.mpr ⟨lw_p13, List.forall_mem_cons.mpr ⟨lw_p14, List.forall_mem_cons.mpr ⟨lw_p15, fun _ h => absurd h List.not_mem_nil⟩⟩⟩⟩⟩⟩⟩⟩⟩⟩⟩⟩⟩⟩⟩⟩
theorem lw_p16 : lw_okq (⟨"WeatherDisguise$Town", "turnWind", "()V"⟩, 10) := ⟨⟨by decide +kernel, by decide +kernel⟩, List.mem_of_getElem? (i := 25) (by decide +kernel), List.mem_of_getElem? (i := 482) (by decide +kernel), List.mem_of_getElem? (i := 483) (by decide +kernel)⟩
theorem lw_p17 : lw_okq (⟨"WeatherDisguise$Town", "draw", "()I"⟩, 10) := ⟨⟨by decide +kernel, by decide +kernel⟩, List.mem_of_getElem? (i := 25) (by decide +kernel), List.mem_of_getElem? (i := 519) (by decide +kernel), List.mem_of_getElem? (i := 520) (by decide +kernel)⟩
theorem lw_p18 : lw_okq (⟨"WeatherDisguise", "tryWalk", "(II[I)V"⟩, 15) := ⟨⟨by decide +kernel, by decide +kernel⟩, List.mem_of_getElem? (i := 17) (by decide +kernel), List.mem_of_getElem? (i := 554) (by decide +kernel), List.mem_of_getElem? (i := 555) (by decide +kernel)⟩
theorem lw_p19 : lw_okq (⟨"WeatherDisguise", "offOfTried", "(II)I"⟩, 15) := ⟨⟨by decide +kernel, by decide +kernel⟩, List.mem_of_getElem? (i := 17) (by decide +kernel), List.mem_of_getElem? (i := 578) (by decide +kernel), List.mem_of_getElem? (i := 579) (by decide +kernel)⟩
theorem lw_p20 : lw_okq (⟨"WeatherDisguise", "fewestThatSee", "(I)I"⟩, 15) := ⟨⟨by decide +kernel, by decide +kernel⟩, List.mem_of_getElem? (i := 17) (by decide +kernel), List.mem_of_getElem? (i := 601) (by decide +kernel), List.mem_of_getElem? (i := 602) (by decide +kernel)⟩
theorem lw_p21 : lw_okq (⟨"WeatherDisguise", "sheetAt", "(I)LWeatherDisguise$Sheet;"⟩, 15) := ⟨⟨by decide +kernel, by decide +kernel⟩, List.mem_of_getElem? (i := 17) (by decide +kernel), List.mem_of_getElem? (i := 621) (by decide +kernel), List.mem_of_getElem? (i := 622) (by decide +kernel)⟩
theorem lw_p22 : lw_okq (⟨"WeatherDisguise", "fitsFrom", "(IILWeatherDisguise$Sheet;)Z"⟩, 15) := ⟨⟨by decide +kernel, by decide +kernel⟩, List.mem_of_getElem? (i := 17) (by decide +kernel), List.mem_of_getElem? (i := 629) (by decide +kernel), List.mem_of_getElem? (i := 630) (by decide +kernel)⟩
theorem lw_p23 : lw_okq (⟨"WeatherDisguise", "isRow", "(II)Z"⟩, 15) := ⟨⟨by decide +kernel, by decide +kernel⟩, List.mem_of_getElem? (i := 17) (by decide +kernel), List.mem_of_getElem? (i := 671) (by decide +kernel), List.mem_of_getElem? (i := 672) (by decide +kernel)⟩
theorem lw_p24 : lw_okq (⟨"WeatherDisguise", "shelfAt", "(I)LWeatherDisguise$Shelf;"⟩, 15) := ⟨⟨by decide +kernel, by decide +kernel⟩, List.mem_of_getElem? (i := 17) (by decide +kernel), List.mem_of_getElem? (i := 718) (by decide +kernel), List.mem_of_getElem? (i := 719) (by decide +kernel)⟩
theorem lw_p25 : lw_okq (⟨"WeatherDisguise", "holdsAir", "(LWeatherDisguise$Shelf;)Z"⟩, 15) := ⟨⟨by decide +kernel, by decide +kernel⟩, List.mem_of_getElem? (i := 17) (by decide +kernel), List.mem_of_getElem? (i := 735) (by decide +kernel), List.mem_of_getElem? (i := 736) (by decide +kernel)⟩
theorem lw_p26 : lw_okq (⟨"WeatherDisguise$Acts", "bodyOf", "(I)I"⟩, 6) := ⟨⟨by decide +kernel, by decide +kernel⟩, List.mem_of_getElem? (i := 106) (by decide +kernel), List.mem_of_getElem? (i := 754) (by decide +kernel), List.mem_of_getElem? (i := 755) (by decide +kernel)⟩
theorem lw_p27 : lw_okq (⟨"WeatherDisguise$Acts", "note", "(I)V"⟩, 6) := ⟨⟨by decide +kernel, by decide +kernel⟩, List.mem_of_getElem? (i := 106) (by decide +kernel), List.mem_of_getElem? (i := 764) (by decide +kernel), List.mem_of_getElem? (i := 765) (by decide +kernel)⟩
theorem lw_p28 : lw_okq (⟨"WeatherDisguise$Acts", "partedBy", "(II)I"⟩, 6) := ⟨⟨by decide +kernel, by decide +kernel⟩, List.mem_of_getElem? (i := 106) (by decide +kernel), List.mem_of_getElem? (i := 768) (by decide +kernel), List.mem_of_getElem? (i := 769) (by decide +kernel)⟩
theorem lw_p29 : lw_okq (⟨"WeatherDisguiseModel", "begins", "()V"⟩, 30) := ⟨⟨by decide +kernel, by decide +kernel⟩, List.mem_of_getElem? (i := 788) (by decide +kernel), List.mem_of_getElem? (i := 794) (by decide +kernel), List.mem_of_getElem? (i := 795) (by decide +kernel)⟩
theorem lw_p30 : lw_okq (⟨"WeatherDisguiseModel", "nextToken", "()V"⟩, 30) := ⟨⟨by decide +kernel, by decide +kernel⟩, List.mem_of_getElem? (i := 788) (by decide +kernel), List.mem_of_getElem? (i := 905) (by decide +kernel), List.mem_of_getElem? (i := 906) (by decide +kernel)⟩
theorem lw_p31 : lw_okq (⟨"WeatherDisguiseModel", "byteAt", "(I)I"⟩, 30) := ⟨⟨by decide +kernel, by decide +kernel⟩, List.mem_of_getElem? (i := 788) (by decide +kernel), List.mem_of_getElem? (i := 909) (by decide +kernel), List.mem_of_getElem? (i := 910) (by decide +kernel)⟩
def lw_privs_2 : List (MethodName × Nat) := [(⟨"WeatherDisguise$Town", "turnWind", "()V"⟩, 10), (⟨"WeatherDisguise$Town", "draw", "()I"⟩, 10), (⟨"WeatherDisguise", "tryWalk", "(II[I)V"⟩, 15), (⟨"WeatherDisguise", "offOfTried", "(II)I"⟩, 15), (⟨"WeatherDisguise", "fewestThatSee", "(I)I"⟩, 15), (⟨"WeatherDisguise", "sheetAt", "(I)LWeatherDisguise$Sheet;"⟩, 15), (⟨"WeatherDisguise", "fitsFrom", "(IILWeatherDisguise$Sheet;)Z"⟩, 15), (⟨"WeatherDisguise", "isRow", "(II)Z"⟩, 15), (⟨"WeatherDisguise", "shelfAt", "(I)LWeatherDisguise$Shelf;"⟩, 15), (⟨"WeatherDisguise", "holdsAir", "(LWeatherDisguise$Shelf;)Z"⟩, 15), (⟨"WeatherDisguise$Acts", "bodyOf", "(I)I"⟩, 6), (⟨"WeatherDisguise$Acts", "note", "(I)V"⟩, 6), (⟨"WeatherDisguise$Acts", "partedBy", "(II)I"⟩, 6), (⟨"WeatherDisguiseModel", "begins", "()V"⟩, 30), (⟨"WeatherDisguiseModel", "nextToken", "()V"⟩, 30), (⟨"WeatherDisguiseModel", "byteAt", "(I)I"⟩, 30)]
theorem lw_r2 : ∀ q ∈ lw_privs_2, lw_okq q := List.forall_mem_cons.mpr ⟨lw_p16, List.forall_mem_cons.mpr ⟨lw_p17, List.forall_mem_cons.mpr ⟨lw_p18, List.forall_mem_cons.mpr ⟨lw_p19, List.forall_mem_cons.mpr ⟨lw_p20, List.forall_mem_cons.mpr ⟨lw_p21, List.forall_mem_cons.mpr ⟨lw_p22, List.forall_mem_cons.mpr ⟨lw_p23, List.forall_mem_cons.mpr ⟨lw_p24, List.forall_mem_cons.mpr ⟨lw_p25, List.forall_mem_cons.mpr ⟨lw_p26, List.forall_mem_cons.mpr ⟨lw_p27, List.forall_mem_cons.mpr ⟨lw_p28, List.forall_mem_cons.mpr ⟨lw_p29, List.forall_mem_cons.mpr ⟨lw_p30, List.forall_mem_cons.mpr ⟨lw_p31, fun _ h => absurd h List.not_mem_nil⟩⟩⟩⟩⟩⟩⟩⟩⟩⟩⟩⟩⟩⟩⟩⟩
theorem lw_p32 : lw_okq (⟨"WeatherDisguiseModel", "itemHere", "()V"⟩, 30) := ⟨⟨by decide +kernel, by decide +kernel⟩, List.mem_of_getElem? (i := 788) (by decide +kernel), List.mem_of_getElem? (i := 919) (by decide +kernel), List.mem_of_getElem? (i := 920) (by decide +kernel)⟩
theorem lw_p33 : lw_okq (⟨"WeatherDisguiseModel", "kindHere", "()I"⟩, 30) := ⟨⟨by decide +kernel, by decide +kernel⟩, List.mem_of_getElem? (i := 788) (by decide +kernel), List.mem_of_getElem? (i := 923) (by decide +kernel), List.mem_of_getElem? (i := 924) (by decide +kernel)⟩
theorem lw_p34 : lw_okq (⟨"WeatherDisguiseModel", "isName", "(IIIII)Z"⟩, 30) := ⟨⟨by decide +kernel, by decide +kernel⟩, List.mem_of_getElem? (i := 788) (by decide +kernel), List.mem_of_getElem? (i := 927) (by decide +kernel), List.mem_of_getElem? (i := 928) (by decide +kernel)⟩
theorem lw_p35 : lw_okq (⟨"WeatherDisguiseModel", "isFour", "(IIII)Z"⟩, 30) := ⟨⟨by decide +kernel, by decide +kernel⟩, List.mem_of_getElem? (i := 788) (by decide +kernel), List.mem_of_getElem? (i := 931) (by decide +kernel), List.mem_of_getElem? (i := 932) (by decide +kernel)⟩
theorem lw_p36 : lw_okq (⟨"WeatherDisguiseModel", "isSame", "(IIII)Z"⟩, 30) := ⟨⟨by decide +kernel, by decide +kernel⟩, List.mem_of_getElem? (i := 788) (by decide +kernel), List.mem_of_getElem? (i := 935) (by decide +kernel), List.mem_of_getElem? (i := 936) (by decide +kernel)⟩
theorem lw_p37 : lw_okq (⟨"WeatherDisguiseModel", "ownHere", "()I"⟩, 30) := ⟨⟨by decide +kernel, by decide +kernel⟩, List.mem_of_getElem? (i := 788) (by decide +kernel), List.mem_of_getElem? (i := 939) (by decide +kernel), List.mem_of_getElem? (i := 940) (by decide +kernel)⟩
theorem lw_p38 : lw_okq (⟨"WeatherDisguiseModel", "airHere", "(I)V"⟩, 30) := ⟨⟨by decide +kernel, by decide +kernel⟩, List.mem_of_getElem? (i := 788) (by decide +kernel), List.mem_of_getElem? (i := 943) (by decide +kernel), List.mem_of_getElem? (i := 944) (by decide +kernel)⟩
theorem lw_p39 : lw_okq (⟨"WeatherDisguiseModel", "needs", "(Z)V"⟩, 30) := ⟨⟨by decide +kernel, by decide +kernel⟩, List.mem_of_getElem? (i := 788) (by decide +kernel), List.mem_of_getElem? (i := 947) (by decide +kernel), List.mem_of_getElem? (i := 948) (by decide +kernel)⟩
theorem lw_p40 : lw_okq (⟨"WeatherDisguiseModel", "isTwo", "(II)Z"⟩, 30) := ⟨⟨by decide +kernel, by decide +kernel⟩, List.mem_of_getElem? (i := 788) (by decide +kernel), List.mem_of_getElem? (i := 951) (by decide +kernel), List.mem_of_getElem? (i := 952) (by decide +kernel)⟩
theorem lw_p41 : lw_okq (⟨"WeatherDisguiseModel", "comes", "(IIII)V"⟩, 30) := ⟨⟨by decide +kernel, by decide +kernel⟩, List.mem_of_getElem? (i := 788) (by decide +kernel), List.mem_of_getElem? (i := 955) (by decide +kernel), List.mem_of_getElem? (i := 956) (by decide +kernel)⟩
theorem lw_p42 : lw_okq (⟨"WeatherDisguiseModel", "numberTo", "(III)V"⟩, 30) := ⟨⟨by decide +kernel, by decide +kernel⟩, List.mem_of_getElem? (i := 788) (by decide +kernel), List.mem_of_getElem? (i := 959) (by decide +kernel), List.mem_of_getElem? (i := 960) (by decide +kernel)⟩
theorem lw_p43 : lw_okq (⟨"WeatherDisguiseModel", "isFive", "(IIIII)Z"⟩, 30) := ⟨⟨by decide +kernel, by decide +kernel⟩, List.mem_of_getElem? (i := 788) (by decide +kernel), List.mem_of_getElem? (i := 963) (by decide +kernel), List.mem_of_getElem? (i := 964) (by decide +kernel)⟩
theorem lw_p44 : lw_okq (⟨"WeatherDisguiseModel", "perhaps", "(ZII)V"⟩, 30) := ⟨⟨by decide +kernel, by decide +kernel⟩, List.mem_of_getElem? (i := 788) (by decide +kernel), List.mem_of_getElem? (i := 967) (by decide +kernel), List.mem_of_getElem? (i := 968) (by decide +kernel)⟩
theorem lw_p45 : lw_okq (⟨"WeatherDisguiseModel", "wetHere", "()V"⟩, 30) := ⟨⟨by decide +kernel, by decide +kernel⟩, List.mem_of_getElem? (i := 788) (by decide +kernel), List.mem_of_getElem? (i := 971) (by decide +kernel), List.mem_of_getElem? (i := 972) (by decide +kernel)⟩
theorem lw_p46 : lw_okq (⟨"WeatherDisguiseModel", "becomes", "(II)I"⟩, 30) := ⟨⟨by decide +kernel, by decide +kernel⟩, List.mem_of_getElem? (i := 788) (by decide +kernel), List.mem_of_getElem? (i := 982) (by decide +kernel), List.mem_of_getElem? (i := 983) (by decide +kernel)⟩
theorem lw_p47 : lw_okq (⟨"WeatherDisguiseModel", "isOne", "(I)Z"⟩, 30) := ⟨⟨by decide +kernel, by decide +kernel⟩, List.mem_of_getElem? (i := 788) (by decide +kernel), List.mem_of_getElem? (i := 1002) (by decide +kernel), List.mem_of_getElem? (i := 1003) (by decide +kernel)⟩
def lw_privs_3 : List (MethodName × Nat) := [(⟨"WeatherDisguiseModel", "itemHere", "()V"⟩, 30), (⟨"WeatherDisguiseModel", "kindHere", "()I"⟩, 30), (⟨"WeatherDisguiseModel", "isName", "(IIIII)Z"⟩, 30), (⟨"WeatherDisguiseModel", "isFour", "(IIII)Z"⟩, 30), (⟨"WeatherDisguiseModel", "isSame", "(IIII)Z"⟩, 30), (⟨"WeatherDisguiseModel", "ownHere", "()I"⟩, 30), (⟨"WeatherDisguiseModel", "airHere", "(I)V"⟩, 30), (⟨"WeatherDisguiseModel", "needs", "(Z)V"⟩, 30), (⟨"WeatherDisguiseModel", "isTwo", "(II)Z"⟩, 30), (⟨"WeatherDisguiseModel", "comes", "(IIII)V"⟩, 30), (⟨"WeatherDisguiseModel", "numberTo", "(III)V"⟩, 30), (⟨"WeatherDisguiseModel", "isFive", "(IIIII)Z"⟩, 30), (⟨"WeatherDisguiseModel", "perhaps", "(ZII)V"⟩, 30), (⟨"WeatherDisguiseModel", "wetHere", "()V"⟩, 30), (⟨"WeatherDisguiseModel", "becomes", "(II)I"⟩, 30), (⟨"WeatherDisguiseModel", "isOne", "(I)Z"⟩, 30)]
theorem lw_r3 : ∀ q ∈ lw_privs_3, lw_okq q := List.forall_mem_cons.mpr ⟨lw_p32, List.forall_mem_cons.mpr ⟨lw_p33, List.forall_mem_cons.mpr ⟨lw_p34, List.forall_mem_cons.mpr ⟨lw_p35, List.forall_mem_cons.mpr ⟨lw_p36, List.forall_mem_cons.mpr ⟨lw_p37, List.forall_mem_cons.mpr ⟨lw_p38, List.forall_mem_cons.mpr ⟨lw_p39, List.forall_mem_cons.mpr ⟨lw_p40, List.forall_mem_cons.mpr ⟨lw_p41, List.forall_mem_cons.mpr ⟨lw_p42, List.forall_mem_cons.mpr ⟨lw_p43, List.forall_mem_cons.mpr ⟨lw_p44, List.forall_mem_cons.mpr ⟨lw_p45, List.forall_mem_cons.mpr ⟨lw_p46, List.forall_mem_cons.mpr ⟨lw_p47, fun _ h => absurd h List.not_mem_nil⟩⟩⟩⟩⟩⟩⟩⟩⟩⟩⟩⟩⟩⟩⟩⟩
theorem lw_p48 : lw_okq (⟨"WeatherDisguiseModel", "its", "(II)I"⟩, 30) := ⟨⟨by decide +kernel, by decide +kernel⟩, List.mem_of_getElem? (i := 788) (by decide +kernel), List.mem_of_getElem? (i := 1006) (by decide +kernel), List.mem_of_getElem? (i := 1007) (by decide +kernel)⟩
theorem lw_p49 : lw_okq (⟨"WeatherDisguiseModel", "wayOf", "(I)I"⟩, 30) := ⟨⟨by decide +kernel, by decide +kernel⟩, List.mem_of_getElem? (i := 788) (by decide +kernel), List.mem_of_getElem? (i := 1010) (by decide +kernel), List.mem_of_getElem? (i := 1011) (by decide +kernel)⟩
theorem lw_p50 : lw_okq (⟨"WeatherDisguiseModel", "towards", "(I)I"⟩, 30) := ⟨⟨by decide +kernel, by decide +kernel⟩, List.mem_of_getElem? (i := 788) (by decide +kernel), List.mem_of_getElem? (i := 1014) (by decide +kernel), List.mem_of_getElem? (i := 1015) (by decide +kernel)⟩
theorem lw_p51 : lw_okq (⟨"WeatherDisguiseModel", "wets", "(I)I"⟩, 30) := ⟨⟨by decide +kernel, by decide +kernel⟩, List.mem_of_getElem? (i := 788) (by decide +kernel), List.mem_of_getElem? (i := 1021) (by decide +kernel), List.mem_of_getElem? (i := 1022) (by decide +kernel)⟩
theorem lw_p52 : lw_okq (⟨"WeatherDisguiseModel", "thoseAt", "(I)I"⟩, 30) := ⟨⟨by decide +kernel, by decide +kernel⟩, List.mem_of_getElem? (i := 788) (by decide +kernel), List.mem_of_getElem? (i := 1049) (by decide +kernel), List.mem_of_getElem? (i := 1050) (by decide +kernel)⟩
theorem lw_p53 : lw_okq (⟨"WeatherDisguiseModel", "goes", "(I)V"⟩, 30) := ⟨⟨by decide +kernel, by decide +kernel⟩, List.mem_of_getElem? (i := 788) (by decide +kernel), List.mem_of_getElem? (i := 1058) (by decide +kernel), List.mem_of_getElem? (i := 1059) (by decide +kernel)⟩
theorem lw_p54 : lw_okq (⟨"WeatherDisguiseModel", "goesOn", "()V"⟩, 30) := ⟨⟨by decide +kernel, by decide +kernel⟩, List.mem_of_getElem? (i := 788) (by decide +kernel), List.mem_of_getElem? (i := 1062) (by decide +kernel), List.mem_of_getElem? (i := 1063) (by decide +kernel)⟩
theorem lw_p55 : lw_okq (⟨"WeatherDisguiseModel", "stopped", "()I"⟩, 30) := ⟨⟨by decide +kernel, by decide +kernel⟩, List.mem_of_getElem? (i := 788) (by decide +kernel), List.mem_of_getElem? (i := 1069) (by decide +kernel), List.mem_of_getElem? (i := 1070) (by decide +kernel)⟩
theorem lw_p56 : lw_okq (⟨"WeatherDisguiseModel", "drawn", "()I"⟩, 30) := ⟨⟨by decide +kernel, by decide +kernel⟩, List.mem_of_getElem? (i := 788) (by decide +kernel), List.mem_of_getElem? (i := 1084) (by decide +kernel), List.mem_of_getElem? (i := 1085) (by decide +kernel)⟩
theorem lw_p57 : lw_okq (⟨"WeatherDisguiseModel", "wetOfAll", "()I"⟩, 30) := ⟨⟨by decide +kernel, by decide +kernel⟩, List.mem_of_getElem? (i := 788) (by decide +kernel), List.mem_of_getElem? (i := 1099) (by decide +kernel), List.mem_of_getElem? (i := 1100) (by decide +kernel)⟩
theorem lw_p58 : lw_okq (⟨"WeatherDisguiseModel", "housesInUse", "()I"⟩, 30) := ⟨⟨by decide +kernel, by decide +kernel⟩, List.mem_of_getElem? (i := 788) (by decide +kernel), List.mem_of_getElem? (i := 1103) (by decide +kernel), List.mem_of_getElem? (i := 1104) (by decide +kernel)⟩
theorem lw_p59 : lw_okq (⟨"WeatherDisguiseModel", "wetBy", "(I)I"⟩, 30) := ⟨⟨by decide +kernel, by decide +kernel⟩, List.mem_of_getElem? (i := 788) (by decide +kernel), List.mem_of_getElem? (i := 1107) (by decide +kernel), List.mem_of_getElem? (i := 1108) (by decide +kernel)⟩
theorem lw_p60 : lw_okq (⟨"WeatherDisguiseModel", "whereBehind", "(II)I"⟩, 30) := ⟨⟨by decide +kernel, by decide +kernel⟩, List.mem_of_getElem? (i := 788) (by decide +kernel), List.mem_of_getElem? (i := 1115) (by decide +kernel), List.mem_of_getElem? (i := 1116) (by decide +kernel)⟩
theorem lw_p61 : lw_okq (⟨"WeatherDisguiseModel", "offBehind", "(II)I"⟩, 30) := ⟨⟨by decide +kernel, by decide +kernel⟩, List.mem_of_getElem? (i := 788) (by decide +kernel), List.mem_of_getElem? (i := 1135) (by decide +kernel), List.mem_of_getElem? (i := 1136) (by decide +kernel)⟩
theorem lw_p62 : lw_okq (⟨"WeatherDisguiseModel", "offNow", "(I)I"⟩, 30) := ⟨⟨by decide +kernel, by decide +kernel⟩, List.mem_of_getElem? (i := 788) (by decide +kernel), List.mem_of_getElem? (i := 1139) (by decide +kernel), List.mem_of_getElem? (i := 1140) (by decide +kernel)⟩
theorem lw_p63 : lw_okq (⟨"WeatherDisguiseModel", "nearestBy", "(IIII)I"⟩, 30) := ⟨⟨by decide +kernel, by decide +kernel⟩, List.mem_of_getElem? (i := 788) (by decide +kernel), List.mem_of_getElem? (i := 1153) (by decide +kernel), List.mem_of_getElem? (i := 1154) (by decide +kernel)⟩
def lw_privs_4 : List (MethodName × Nat) := [(⟨"WeatherDisguiseModel", "its", "(II)I"⟩, 30), (⟨"WeatherDisguiseModel", "wayOf", "(I)I"⟩, 30), (⟨"WeatherDisguiseModel", "towards", "(I)I"⟩, 30), (⟨"WeatherDisguiseModel", "wets", "(I)I"⟩, 30), (⟨"WeatherDisguiseModel", "thoseAt", "(I)I"⟩, 30), (⟨"WeatherDisguiseModel", "goes", "(I)V"⟩, 30), (⟨"WeatherDisguiseModel", "goesOn", "()V"⟩, 30), (⟨"WeatherDisguiseModel", "stopped", "()I"⟩, 30), (⟨"WeatherDisguiseModel", "drawn", "()I"⟩, 30), (⟨"WeatherDisguiseModel", "wetOfAll", "()I"⟩, 30), (⟨"WeatherDisguiseModel", "housesInUse", "()I"⟩, 30), (⟨"WeatherDisguiseModel", "wetBy", "(I)I"⟩, 30), (⟨"WeatherDisguiseModel", "whereBehind", "(II)I"⟩, 30), (⟨"WeatherDisguiseModel", "offBehind", "(II)I"⟩, 30), (⟨"WeatherDisguiseModel", "offNow", "(I)I"⟩, 30), (⟨"WeatherDisguiseModel", "nearestBy", "(IIII)I"⟩, 30)]
theorem lw_r4 : ∀ q ∈ lw_privs_4, lw_okq q := List.forall_mem_cons.mpr ⟨lw_p48, List.forall_mem_cons.mpr ⟨lw_p49, List.forall_mem_cons.mpr ⟨lw_p50, List.forall_mem_cons.mpr ⟨lw_p51, List.forall_mem_cons.mpr ⟨lw_p52, List.forall_mem_cons.mpr ⟨lw_p53, List.forall_mem_cons.mpr ⟨lw_p54, List.forall_mem_cons.mpr ⟨lw_p55, List.forall_mem_cons.mpr ⟨lw_p56, List.forall_mem_cons.mpr ⟨lw_p57, List.forall_mem_cons.mpr ⟨lw_p58, List.forall_mem_cons.mpr ⟨lw_p59, List.forall_mem_cons.mpr ⟨lw_p60, List.forall_mem_cons.mpr ⟨lw_p61, List.forall_mem_cons.mpr ⟨lw_p62, List.forall_mem_cons.mpr ⟨lw_p63, fun _ h => absurd h List.not_mem_nil⟩⟩⟩⟩⟩⟩⟩⟩⟩⟩⟩⟩⟩⟩⟩⟩
theorem lw_p64 : lw_okq (⟨"WeatherDisguiseModel", "isTold", "(II)Z"⟩, 30) := ⟨⟨by decide +kernel, by decide +kernel⟩, List.mem_of_getElem? (i := 788) (by decide +kernel), List.mem_of_getElem? (i := 1179) (by decide +kernel), List.mem_of_getElem? (i := 1180) (by decide +kernel)⟩
theorem lw_p65 : lw_okq (⟨"WeatherDisguiseModel", "isRow", "(II)Z"⟩, 30) := ⟨⟨by decide +kernel, by decide +kernel⟩, List.mem_of_getElem? (i := 788) (by decide +kernel), List.mem_of_getElem? (i := 1208) (by decide +kernel), List.mem_of_getElem? (i := 1209) (by decide +kernel)⟩
theorem lw_p66 : lw_okq (⟨"WeatherDisguiseModel", "lacks", "(II)I"⟩, 30) := ⟨⟨by decide +kernel, by decide +kernel⟩, List.mem_of_getElem? (i := 788) (by decide +kernel), List.mem_of_getElem? (i := 1233) (by decide +kernel), List.mem_of_getElem? (i := 1234) (by decide +kernel)⟩
theorem lw_p67 : lw_okq (⟨"WeatherDisguiseModel", "heldOn", "(I)I"⟩, 30) := ⟨⟨by decide +kernel, by decide +kernel⟩, List.mem_of_getElem? (i := 788) (by decide +kernel), List.mem_of_getElem? (i := 1257) (by decide +kernel), List.mem_of_getElem? (i := 1258) (by decide +kernel)⟩
theorem lw_p68 : lw_okq (⟨"WeatherDisguiseModel", "drifts", "(I)I"⟩, 30) := ⟨⟨by decide +kernel, by decide +kernel⟩, List.mem_of_getElem? (i := 788) (by decide +kernel), List.mem_of_getElem? (i := 1268) (by decide +kernel), List.mem_of_getElem? (i := 1269) (by decide +kernel)⟩
theorem lw_p69 : lw_okq (⟨"WeatherDisguiseModel", "driftsOfFog", "(I)I"⟩, 30) := ⟨⟨by decide +kernel, by decide +kernel⟩, List.mem_of_getElem? (i := 788) (by decide +kernel), List.mem_of_getElem? (i := 1272) (by decide +kernel), List.mem_of_getElem? (i := 1273) (by decide +kernel)⟩
theorem lw_p70 : lw_okq (⟨"WeatherDisguiseModel", "runs", "(I)V"⟩, 30) := ⟨⟨by decide +kernel, by decide +kernel⟩, List.mem_of_getElem? (i := 788) (by decide +kernel), List.mem_of_getElem? (i := 1276) (by decide +kernel), List.mem_of_getElem? (i := 1277) (by decide +kernel)⟩
theorem lw_p71 : lw_okq (⟨"WeatherDisguiseModel", "driftsPlain", "(I)I"⟩, 30) := ⟨⟨by decide +kernel, by decide +kernel⟩, List.mem_of_getElem? (i := 788) (by decide +kernel), List.mem_of_getElem? (i := 1280) (by decide +kernel), List.mem_of_getElem? (i := 1281) (by decide +kernel)⟩
theorem lw_p72 : lw_okq (⟨"WeatherDisguiseModel", "drips", "(I)I"⟩, 30) := ⟨⟨by decide +kernel, by decide +kernel⟩, List.mem_of_getElem? (i := 788) (by decide +kernel), List.mem_of_getElem? (i := 1284) (by decide +kernel), List.mem_of_getElem? (i := 1285) (by decide +kernel)⟩
theorem lw_p73 : lw_okq (⟨"WeatherDisguiseModel", "dripsPlain", "(I)I"⟩, 30) := ⟨⟨by decide +kernel, by decide +kernel⟩, List.mem_of_getElem? (i := 788) (by decide +kernel), List.mem_of_getElem? (i := 1288) (by decide +kernel), List.mem_of_getElem? (i := 1289) (by decide +kernel)⟩
theorem lw_p74 : lw_okq (⟨"WeatherDisguiseModel", "parts", "(I)I"⟩, 30) := ⟨⟨by decide +kernel, by decide +kernel⟩, List.mem_of_getElem? (i := 788) (by decide +kernel), List.mem_of_getElem? (i := 1292) (by decide +kernel), List.mem_of_getElem? (i := 1293) (by decide +kernel)⟩
theorem lw_p75 : lw_okq (⟨"WeatherDisguiseModel", "partsPlain", "(I)I"⟩, 30) := ⟨⟨by decide +kernel, by decide +kernel⟩, List.mem_of_getElem? (i := 788) (by decide +kernel), List.mem_of_getElem? (i := 1296) (by decide +kernel), List.mem_of_getElem? (i := 1297) (by decide +kernel)⟩
theorem lw_p76 : lw_okq (⟨"WeatherDisguiseModel", "halts", "(I)I"⟩, 30) := ⟨⟨by decide +kernel, by decide +kernel⟩, List.mem_of_getElem? (i := 788) (by decide +kernel), List.mem_of_getElem? (i := 1300) (by decide +kernel), List.mem_of_getElem? (i := 1301) (by decide +kernel)⟩
theorem lw_p77 : lw_okq (⟨"WeatherDisguiseModel", "haltsPlain", "(I)I"⟩, 30) := ⟨⟨by decide +kernel, by decide +kernel⟩, List.mem_of_getElem? (i := 788) (by decide +kernel), List.mem_of_getElem? (i := 1304) (by decide +kernel), List.mem_of_getElem? (i := 1305) (by decide +kernel)⟩
def lw_privs_5 : List (MethodName × Nat) := [(⟨"WeatherDisguiseModel", "isTold", "(II)Z"⟩, 30), (⟨"WeatherDisguiseModel", "isRow", "(II)Z"⟩, 30), (⟨"WeatherDisguiseModel", "lacks", "(II)I"⟩, 30), (⟨"WeatherDisguiseModel", "heldOn", "(I)I"⟩, 30), (⟨"WeatherDisguiseModel", "drifts", "(I)I"⟩, 30), (⟨"WeatherDisguiseModel", "driftsOfFog", "(I)I"⟩, 30), (⟨"WeatherDisguiseModel", "runs", "(I)V"⟩, 30), (⟨"WeatherDisguiseModel", "driftsPlain", "(I)I"⟩, 30), (⟨"WeatherDisguiseModel", "drips", "(I)I"⟩, 30), (⟨"WeatherDisguiseModel", "dripsPlain", "(I)I"⟩, 30), (⟨"WeatherDisguiseModel", "parts", "(I)I"⟩, 30), (⟨"WeatherDisguiseModel", "partsPlain", "(I)I"⟩, 30), (⟨"WeatherDisguiseModel", "halts", "(I)I"⟩, 30), (⟨"WeatherDisguiseModel", "haltsPlain", "(I)I"⟩, 30)]
theorem lw_r5 : ∀ q ∈ lw_privs_5, lw_okq q := List.forall_mem_cons.mpr ⟨lw_p64, List.forall_mem_cons.mpr ⟨lw_p65, List.forall_mem_cons.mpr ⟨lw_p66, List.forall_mem_cons.mpr ⟨lw_p67, List.forall_mem_cons.mpr ⟨lw_p68, List.forall_mem_cons.mpr ⟨lw_p69, List.forall_mem_cons.mpr ⟨lw_p70, List.forall_mem_cons.mpr ⟨lw_p71, List.forall_mem_cons.mpr ⟨lw_p72, List.forall_mem_cons.mpr ⟨lw_p73, List.forall_mem_cons.mpr ⟨lw_p74, List.forall_mem_cons.mpr ⟨lw_p75, List.forall_mem_cons.mpr ⟨lw_p76, List.forall_mem_cons.mpr ⟨lw_p77, fun _ h => absurd h List.not_mem_nil⟩⟩⟩⟩⟩⟩⟩⟩⟩⟩⟩⟩⟩⟩
def lw_privs : List (MethodName × Nat) := lw_privs_1 ++ (lw_privs_2 ++ (lw_privs_3 ++ (lw_privs_4 ++ (lw_privs_5))))
def lw_tbl : List Cond := k2_sels lw_privs ++ tables_1
theorem lw_privs_ok : ∀ q ∈ lw_privs, lw_okq q := by
  show ∀ q ∈ lw_privs_1 ++ (lw_privs_2 ++ (lw_privs_3 ++ (lw_privs_4 ++ (lw_privs_5)))), lw_okq q
  exact List.forall_mem_append.mpr ⟨lw_r1, List.forall_mem_append.mpr ⟨lw_r2, List.forall_mem_append.mpr ⟨lw_r3, List.forall_mem_append.mpr ⟨lw_r4, lw_r5⟩⟩⟩⟩
end
section
def RX0 : String := "WeatherDisguise$Acts"
def RX1 : String := "WeatherDisguise$Sheet"
def RX2 : String := "WeatherDisguise$Shelf"
def RX3 : String := "WeatherDisguise$Tape"
def RX4 : String := "WeatherDisguise$Town"
def RX5 : String := "WeatherDisguise"
def RX6 : String := "WeatherDisguiseModel"
def RJ6 : String := "java/lang/Integer"
def RJ9 : String := "java/lang/Math"
def RJ0 : String := "java/lang/String"
def RJ1 : String := "java/lang/StringLatin1"
def RJ2 : String := "java/lang/StringUTF16"
def RJ10 : String := "java/lang/System"
def RJ7 : String := "java/util/Arrays"
def RJ3 : String := "jdk/internal/util/Preconditions"
def RL : String := "WeatherDisguiseLaw"
def TX0 : u_T := fun k => match k with
  | 0 => ("WeatherDisguise$Acts", "bodies", "[I", true)
  | 1 => ("WeatherDisguise$Acts", "traced", "I", false)
  | 2 => ("WeatherDisguise$Acts", "isPartedBy0", "Z", false)
  | 3 => ("WeatherDisguise$Acts", "kind", "I", false)
  | 4 => ("WeatherDisguise$Acts", "number", "I", false)
  | _ => ("WeatherDisguise$Acts", "force", "I", false)
def tyX0 : Nat → FieldType := fun k => match k with
  | 0 => .array .int
  | 1 => .int
  | 2 => .boolean
  | 3 => .int
  | 4 => .int
  | _ => .int
abbrev wsX00 : List Cond := u_ws RX0 TX0 6
theorem nmX0 : ∀ a, a < 6 → ∀ b, b < 6 → a ≠ b → (TX0 a).2.1 ≠ (TX0 b).2.1 := by decide +kernel
theorem tyX0_ok : ∀ k, k < 6 → parseFieldDescriptor (TX0 k).2.2.1 = some (tyX0 k) := by decide +kernel
abbrev cX0_init : ByteArray := prog_2_method_1_code
def yX0_init : MethodName := ⟨RX0, "<init>", "()V"⟩
abbrev cX0_takeThing : ByteArray := prog_2_method_2_code
def yX0_takeThing : MethodName := ⟨RX0, "takeThing", "(III)V"⟩
abbrev cX0_perform : ByteArray := prog_2_method_3_code
def yX0_perform : MethodName := ⟨RX0, "perform", "(II)I"⟩
abbrev cX0_bodyOf : ByteArray := prog_2_method_4_code
def yX0_bodyOf : MethodName := ⟨RX0, "bodyOf", "(I)I"⟩
abbrev cX0_run : ByteArray := prog_2_method_5_code
def yX0_run : MethodName := ⟨RX0, "run", "(LWeatherDisguise$Acts;III)I"⟩
abbrev cX0_partedBy : ByteArray := prog_2_method_6_code
def yX0_partedBy : MethodName := ⟨RX0, "partedBy", "(II)I"⟩
abbrev cX0_note : ByteArray := prog_2_method_7_code
def yX0_note : MethodName := ⟨RX0, "note", "(I)V"⟩
def TX1 : u_T := fun k => match k with
  | 0 => ("WeatherDisguise$Sheet", "items", "[I", true)
  | 1 => ("WeatherDisguise$Sheet", "sort", "I", false)
  | _ => ("WeatherDisguise$Sheet", "size", "I", false)
def tyX1 : Nat → FieldType := fun k => match k with
  | 0 => .array .int
  | 1 => .int
  | _ => .int
abbrev wsX10 : List Cond := u_ws RX1 TX1 3
theorem nmX1 : ∀ a, a < 3 → ∀ b, b < 3 → a ≠ b → (TX1 a).2.1 ≠ (TX1 b).2.1 := by decide +kernel
theorem tyX1_ok : ∀ k, k < 3 → parseFieldDescriptor (TX1 k).2.2.1 = some (tyX1 k) := by decide +kernel
abbrev cX1_init : ByteArray := prog_3_method_1_code
def yX1_init : MethodName := ⟨RX1, "<init>", "()V"⟩
abbrev cX1_isMissing : ByteArray := prog_3_method_2_code
def yX1_isMissing : MethodName := ⟨RX1, "isMissing", "()Z"⟩
abbrev cX1_hasItem : ByteArray := prog_3_method_3_code
def yX1_hasItem : MethodName := ⟨RX1, "hasItem", "(I)Z"⟩
abbrev cX1_becomeRow : ByteArray := prog_3_method_4_code
def yX1_becomeRow : MethodName := ⟨RX1, "becomeRow", "(II)V"⟩
abbrev cX1_narrowed : ByteArray := prog_3_method_5_code
def yX1_narrowed : MethodName := ⟨RX1, "narrowed", "(I)I"⟩
def TX2 : u_T := fun k => match k with
  | 0 => ("WeatherDisguise$Shelf", "holds", "I", false)
  | 1 => ("WeatherDisguise$Shelf", "number", "I", false)
  | 2 => ("WeatherDisguise$Shelf", "sort", "I", false)
  | _ => ("WeatherDisguise$Shelf", "size", "I", false)
def tyX2 : Nat → FieldType := fun k => match k with
  | 0 => .int
  | 1 => .int
  | 2 => .int
  | _ => .int
abbrev wsX20 : List Cond := u_ws RX2 TX2 4
theorem nmX2 : ∀ a, a < 4 → ∀ b, b < 4 → a ≠ b → (TX2 a).2.1 ≠ (TX2 b).2.1 := by decide +kernel
theorem tyX2_ok : ∀ k, k < 4 → parseFieldDescriptor (TX2 k).2.2.1 = some (tyX2 k) := by decide +kernel
abbrev cX2_init : ByteArray := prog_4_method_1_code
def yX2_init : MethodName := ⟨RX2, "<init>", "()V"⟩
abbrev cX2_holdAir : ByteArray := prog_4_method_2_code
def yX2_holdAir : MethodName := ⟨RX2, "holdAir", "(I)V"⟩
abbrev cX2_holdRow : ByteArray := prog_4_method_3_code
def yX2_holdRow : MethodName := ⟨RX2, "holdRow", "(LWeatherDisguise$Sheet;)V"⟩
def TX3 : u_T := fun k => match k with
  | 0 => ("WeatherDisguise$Tape", "bytes", "[I", true)
  | 1 => ("WeatherDisguise$Tape", "size", "I", false)
  | 2 => ("WeatherDisguise$Tape", "place", "I", false)
  | _ => ("WeatherDisguise$Tape", "fault", "I", false)
def tyX3 : Nat → FieldType := fun k => match k with
  | 0 => .array .int
  | 1 => .int
  | 2 => .int
  | _ => .int
abbrev wsX30 : List Cond := u_ws RX3 TX3 4
theorem nmX3 : ∀ a, a < 4 → ∀ b, b < 4 → a ≠ b → (TX3 a).2.1 ≠ (TX3 b).2.1 := by decide +kernel
theorem tyX3_ok : ∀ k, k < 4 → parseFieldDescriptor (TX3 k).2.2.1 = some (tyX3 k) := by decide +kernel
abbrev cX3_init : ByteArray := prog_5_method_1_code
def yX3_init : MethodName := ⟨RX3, "<init>", "()V"⟩
abbrev cX3_takeBytes : ByteArray := prog_5_method_2_code
def yX3_takeBytes : MethodName := ⟨RX3, "takeBytes", "(JI)Z"⟩
abbrev cX3_tell : ByteArray := prog_5_method_3_code
def yX3_tell : MethodName := ⟨RX3, "tell", "(LWeatherDisguise$Town;)I"⟩
abbrev cX3_tellOne : ByteArray := prog_5_method_4_code
def yX3_tellOne : MethodName := ⟨RX3, "tellOne", "(LWeatherDisguise$Town;)V"⟩
abbrev cX3_kindHere : ByteArray := prog_5_method_5_code
def yX3_kindHere : MethodName := ⟨RX3, "kindHere", "()I"⟩
abbrev cX3_tellAir : ByteArray := prog_5_method_6_code
def yX3_tellAir : MethodName := ⟨RX3, "tellAir", "(LWeatherDisguise$Town;I)V"⟩
abbrev cX3_tellWet : ByteArray := prog_5_method_7_code
def yX3_tellWet : MethodName := ⟨RX3, "tellWet", "(LWeatherDisguise$Town;)V"⟩
abbrev cX3_tellLaw : ByteArray := prog_5_method_8_code
def yX3_tellLaw : MethodName := ⟨RX3, "tellLaw", "(LWeatherDisguise$Town;I)V"⟩
abbrev cX3_number : ByteArray := prog_5_method_9_code
def yX3_number : MethodName := ⟨RX3, "number", "(II)I"⟩
abbrev cX3_takeName : ByteArray := prog_5_method_10_code
def yX3_takeName : MethodName := ⟨RX3, "takeName", "(Ljava/lang/String;)V"⟩
abbrev cX3_takesName : ByteArray := prog_5_method_11_code
def yX3_takesName : MethodName := ⟨RX3, "takesName", "(Ljava/lang/String;)Z"⟩
abbrev cX3_takeMark : ByteArray := prog_5_method_12_code
def yX3_takeMark : MethodName := ⟨RX3, "takeMark", "()V"⟩
abbrev cX3_isNameHere : ByteArray := prog_5_method_13_code
def yX3_isNameHere : MethodName := ⟨RX3, "isNameHere", "(Ljava/lang/String;)Z"⟩
abbrev cX3_endOfName : ByteArray := prog_5_method_14_code
def yX3_endOfName : MethodName := ⟨RX3, "endOfName", "()I"⟩
abbrev cX3_endOfNumber : ByteArray := prog_5_method_15_code
def yX3_endOfNumber : MethodName := ⟨RX3, "endOfNumber", "()I"⟩
abbrev cX3_skipBlanks : ByteArray := prog_5_method_16_code
def yX3_skipBlanks : MethodName := ⟨RX3, "skipBlanks", "()V"⟩
abbrev cX3_findFault : ByteArray := prog_5_method_17_code
def yX3_findFault : MethodName := ⟨RX3, "findFault", "()V"⟩
def TX4 : u_T := fun k => match k with
  | 0 => ("WeatherDisguise$Town", "laws", "[I", true)
  | 1 => ("WeatherDisguise$Town", "wet", "[I", true)
  | 2 => ("WeatherDisguise$Town", "kind", "[I", true)
  | 3 => ("WeatherDisguise$Town", "force", "[I", true)
  | 4 => ("WeatherDisguise$Town", "errand", "[I", true)
  | 5 => ("WeatherDisguise$Town", "at", "[I", true)
  | 6 => ("WeatherDisguise$Town", "airs", "I", false)
  | 7 => ("WeatherDisguise$Town", "stepCount", "I", false)
  | 8 => ("WeatherDisguise$Town", "wind", "I", false)
  | _ => ("WeatherDisguise$Town", "z", "I", false)
def tyX4 : Nat → FieldType := fun k => match k with
  | 0 => .array .int
  | 1 => .array .int
  | 2 => .array .int
  | 3 => .array .int
  | 4 => .array .int
  | 5 => .array .int
  | 6 => .int
  | 7 => .int
  | 8 => .int
  | _ => .int
abbrev wsX40 : List Cond := u_ws RX4 TX4 10
theorem nmX4 : ∀ a, a < 10 → ∀ b, b < 10 → a ≠ b → (TX4 a).2.1 ≠ (TX4 b).2.1 := by decide +kernel
theorem tyX4_ok : ∀ k, k < 10 → parseFieldDescriptor (TX4 k).2.2.1 = some (tyX4 k) := by decide +kernel
abbrev cX4_init : ByteArray := prog_6_method_1_code
def yX4_init : MethodName := ⟨RX4, "<init>", "()V"⟩
abbrev cX4_clear : ByteArray := prog_6_method_2_code
def yX4_clear : MethodName := ⟨RX4, "clear", "()V"⟩
abbrev cX4_become : ByteArray := prog_6_method_3_code
def yX4_become : MethodName := ⟨RX4, "become", "(LWeatherDisguise$Town;)V"⟩
abbrev cX4_has : ByteArray := prog_6_method_4_code
def yX4_has : MethodName := ⟨RX4, "has", "(I)Z"⟩
abbrev cX4_add : ByteArray := prog_6_method_5_code
def yX4_add : MethodName := ⟨RX4, "add", "(IIII)Z"⟩
abbrev cX4_goes : ByteArray := prog_6_method_6_code
def yX4_goes : MethodName := ⟨RX4, "goes", "(I)I"⟩
abbrev cX4_wayWanted : ByteArray := prog_6_method_7_code
def yX4_wayWanted : MethodName := ⟨RX4, "wayWanted", "(I)I"⟩
abbrev cX4_wayOfFog : ByteArray := prog_6_method_8_code
def yX4_wayOfFog : MethodName := ⟨RX4, "wayOfFog", "()I"⟩
abbrev cX4_wets : ByteArray := prog_6_method_9_code
def yX4_wets : MethodName := ⟨RX4, "wets", "(I)I"⟩
abbrev cX4_takeStep : ByteArray := prog_6_method_10_code
def yX4_takeStep : MethodName := ⟨RX4, "takeStep", "()V"⟩
abbrev cX4_takeStepByDraws : ByteArray := prog_6_method_11_code
def yX4_takeStepByDraws : MethodName := ⟨RX4, "takeStepByDraws", "()V"⟩
abbrev cX4_turnWind : ByteArray := prog_6_method_12_code
def yX4_turnWind : MethodName := ⟨RX4, "turnWind", "()V"⟩
abbrev cX4_draw : ByteArray := prog_6_method_13_code
def yX4_draw : MethodName := ⟨RX4, "draw", "()I"⟩
abbrev cX4_walk : ByteArray := prog_6_method_14_code
def yX4_walk : MethodName := ⟨RX4, "walk", "(II[I)V"⟩
abbrev cX4_rowPart : ByteArray := prog_6_method_15_code
def yX4_rowPart : MethodName := ⟨RX4, "rowPart", "(II)I"⟩
abbrev cX4_standsOtherwise : ByteArray := prog_6_method_16_code
def yX4_standsOtherwise : MethodName := ⟨RX4, "standsOtherwise", "([I)Z"⟩
abbrev cX4_airsAt : ByteArray := prog_6_method_17_code
def yX4_airsAt : MethodName := ⟨RX4, "airsAt", "(I)I"⟩
abbrev cX4_airsAtErrands : ByteArray := prog_6_method_18_code
def yX4_airsAtErrands : MethodName := ⟨RX4, "airsAtErrands", "()I"⟩
abbrev cX4_housesWithAirs : ByteArray := prog_6_method_19_code
def yX4_housesWithAirs : MethodName := ⟨RX4, "housesWithAirs", "()I"⟩
abbrev cX4_housesWetBy : ByteArray := prog_6_method_20_code
def yX4_housesWetBy : MethodName := ⟨RX4, "housesWetBy", "(I)I"⟩
abbrev cX4_wetTogether : ByteArray := prog_6_method_21_code
def yX4_wetTogether : MethodName := ⟨RX4, "wetTogether", "()I"⟩
def TX5 : u_T := fun k => match k with
  | 0 => ("WeatherDisguise", "now", "LWeatherDisguise$Town;", true)
  | 1 => ("WeatherDisguise", "kept", "LWeatherDisguise$Town;", true)
  | 2 => ("WeatherDisguise", "tried", "LWeatherDisguise$Town;", true)
  | 3 => ("WeatherDisguise", "tape", "LWeatherDisguise$Tape;", true)
  | 4 => ("WeatherDisguise", "sheets", "[LWeatherDisguise$Sheet;", true)
  | 5 => ("WeatherDisguise", "shelves", "[LWeatherDisguise$Shelf;", true)
  | 6 => ("WeatherDisguise", "acts", "LWeatherDisguise$Acts;", true)
  | 7 => ("WeatherDisguise", "rows", "[I", true)
  | 8 => ("WeatherDisguise", "path", "[I", true)
  | 9 => ("WeatherDisguise", "otherPath", "[I", true)
  | 10 => ("WeatherDisguise", "calm", "[I", true)
  | 11 => ("WeatherDisguise", "seenFrom", "[I", true)
  | 12 => ("WeatherDisguise", "fewest", "[I", true)
  | 13 => ("WeatherDisguise", "rowCount", "I", false)
  | _ => ("WeatherDisguise", "isKept", "Z", false)
def tyX5 : Nat → FieldType := fun k => match k with
  | 0 => .object "WeatherDisguise$Town"
  | 1 => .object "WeatherDisguise$Town"
  | 2 => .object "WeatherDisguise$Town"
  | 3 => .object "WeatherDisguise$Tape"
  | 4 => .array (.object "WeatherDisguise$Sheet")
  | 5 => .array (.object "WeatherDisguise$Shelf")
  | 6 => .object "WeatherDisguise$Acts"
  | 7 => .array .int
  | 8 => .array .int
  | 9 => .array .int
  | 10 => .array .int
  | 11 => .array .int
  | 12 => .array .int
  | 13 => .int
  | _ => .boolean
abbrev wsX50 : List Cond := u_ws RX5 TX5 15
theorem nmX5 : ∀ a, a < 15 → ∀ b, b < 15 → a ≠ b → (TX5 a).2.1 ≠ (TX5 b).2.1 := by decide +kernel
theorem tyX5_ok : ∀ k, k < 15 → parseFieldDescriptor (TX5 k).2.2.1 = some (tyX5 k) := by decide +kernel
abbrev cX5_init : ByteArray := prog_1_method_1_code
def yX5_init : MethodName := ⟨RX5, "<init>", "()V"⟩
abbrev cX5_feed : ByteArray := prog_1_method_2_code
def yX5_feed : MethodName := ⟨RX5, "feed", "(JI)I"⟩
abbrev cX5_city : ByteArray := prog_1_method_3_code
def yX5_city : MethodName := ⟨RX5, "city", "()I"⟩
abbrev cX5_set : ByteArray := prog_1_method_4_code
def yX5_set : MethodName := ⟨RX5, "set", "(II)I"⟩
abbrev cX5_lawOf : ByteArray := prog_1_method_5_code
def yX5_lawOf : MethodName := ⟨RX5, "lawOf", "(I)I"⟩
abbrev cX5_air : ByteArray := prog_1_method_6_code
def yX5_air : MethodName := ⟨RX5, "air", "(IIII)I"⟩
abbrev cX5_of : ByteArray := prog_1_method_7_code
def yX5_of : MethodName := ⟨RX5, "of", "(II)I"⟩
abbrev cX5_mind : ByteArray := prog_1_method_8_code
def yX5_mind : MethodName := ⟨RX5, "mind", "(III)I"⟩
abbrev cX5_bring : ByteArray := prog_1_method_9_code
def yX5_bring : MethodName := ⟨RX5, "bring", "(II)I"⟩
abbrev cX5_send : ByteArray := prog_1_method_10_code
def yX5_send : MethodName := ⟨RX5, "send", "(II)I"⟩
abbrev cX5_blow : ByteArray := prog_1_method_11_code
def yX5_blow : MethodName := ⟨RX5, "blow", "(I)I"⟩
abbrev cX5_pour : ByteArray := prog_1_method_12_code
def yX5_pour : MethodName := ⟨RX5, "pour", "(II)I"⟩
abbrev cX5_house : ByteArray := prog_1_method_13_code
def yX5_house : MethodName := ⟨RX5, "house", "(II)I"⟩
abbrev cX5_steps : ByteArray := prog_1_method_14_code
def yX5_steps : MethodName := ⟨RX5, "steps", "(I)I"⟩
abbrev cX5_seed : ByteArray := prog_1_method_15_code
def yX5_seed : MethodName := ⟨RX5, "seed", "(I)I"⟩
abbrev cX5_step : ByteArray := prog_1_method_16_code
def yX5_step : MethodName := ⟨RX5, "step", "()I"⟩
abbrev cX5_blown : ByteArray := prog_1_method_17_code
def yX5_blown : MethodName := ⟨RX5, "blown", "(I)I"⟩
abbrev cX5_state : ByteArray := prog_1_method_18_code
def yX5_state : MethodName := ⟨RX5, "state", "(I)I"⟩
abbrev cX5_where : ByteArray := prog_1_method_19_code
def yX5_where : MethodName := ⟨RX5, "where", "(II)I"⟩
abbrev cX5_stops : ByteArray := prog_1_method_20_code
def yX5_stops : MethodName := ⟨RX5, "stops", "(I)I"⟩
abbrev cX5_meets : ByteArray := prog_1_method_21_code
def yX5_meets : MethodName := ⟨RX5, "meets", "(II)I"⟩
abbrev cX5_told : ByteArray := prog_1_method_22_code
def yX5_told : MethodName := ⟨RX5, "told", "(I)I"⟩
abbrev cX5_off : ByteArray := prog_1_method_23_code
def yX5_off : MethodName := ⟨RX5, "off", "(II)I"⟩
abbrev cX5_windFor : ByteArray := prog_1_method_24_code
def yX5_windFor : MethodName := ⟨RX5, "windFor", "(II)I"⟩
abbrev cX5_kindFor : ByteArray := prog_1_method_25_code
def yX5_kindFor : MethodName := ⟨RX5, "kindFor", "(II)I"⟩
abbrev cX5_seen : ByteArray := prog_1_method_26_code
def yX5_seen : MethodName := ⟨RX5, "seen", "(I)I"⟩
abbrev cX5_dryWay : ByteArray := prog_1_method_27_code
def yX5_dryWay : MethodName := ⟨RX5, "dryWay", "(II)I"⟩
abbrev cX5_fits : ByteArray := prog_1_method_28_code
def yX5_fits : MethodName := ⟨RX5, "fits", "(III)I"⟩
abbrev cX5_odds : ByteArray := prog_1_method_29_code
def yX5_odds : MethodName := ⟨RX5, "odds", "(III)J"⟩
abbrev cX5_hope : ByteArray := prog_1_method_30_code
def yX5_hope : MethodName := ⟨RX5, "hope", "(II)J"⟩
abbrev cX5_prove : ByteArray := prog_1_method_31_code
def yX5_prove : MethodName := ⟨RX5, "prove", "(II)I"⟩
abbrev cX5_row : ByteArray := prog_1_method_32_code
def yX5_row : MethodName := ⟨RX5, "row", "(II)I"⟩
abbrev cX5_alterRow : ByteArray := prog_1_method_33_code
def yX5_alterRow : MethodName := ⟨RX5, "alterRow", "(III)I"⟩
abbrev cX5_judge : ByteArray := prog_1_method_34_code
def yX5_judge : MethodName := ⟨RX5, "judge", "(I)I"⟩
abbrev cX5_minds : ByteArray := prog_1_method_35_code
def yX5_minds : MethodName := ⟨RX5, "minds", "(IIII)I"⟩
abbrev cX5_sheet : ByteArray := prog_1_method_36_code
def yX5_sheet : MethodName := ⟨RX5, "sheet", "(III)I"⟩
abbrev cX5_put : ByteArray := prog_1_method_37_code
def yX5_put : MethodName := ⟨RX5, "put", "(III)I"⟩
abbrev cX5_item : ByteArray := prog_1_method_38_code
def yX5_item : MethodName := ⟨RX5, "item", "(III)I"⟩
abbrev cX5_shelf : ByteArray := prog_1_method_39_code
def yX5_shelf : MethodName := ⟨RX5, "shelf", "(III)I"⟩
abbrev cX5_taken : ByteArray := prog_1_method_40_code
def yX5_taken : MethodName := ⟨RX5, "taken", "(II)I"⟩
abbrev cX5_act : ByteArray := prog_1_method_41_code
def yX5_act : MethodName := ⟨RX5, "act", "(III)I"⟩
abbrev cX5_trace : ByteArray := prog_1_method_42_code
def yX5_trace : MethodName := ⟨RX5, "trace", "(I)I"⟩
abbrev cX5_many : ByteArray := prog_1_method_43_code
def yX5_many : MethodName := ⟨RX5, "many", "(I)I"⟩
abbrev cX5_keep : ByteArray := prog_1_method_44_code
def yX5_keep : MethodName := ⟨RX5, "keep", "()I"⟩
abbrev cX5_again : ByteArray := prog_1_method_45_code
def yX5_again : MethodName := ⟨RX5, "again", "()I"⟩
abbrev cX5_tryWalk : ByteArray := prog_1_method_46_code
def yX5_tryWalk : MethodName := ⟨RX5, "tryWalk", "(II[I)V"⟩
abbrev cX5_offOfTried : ByteArray := prog_1_method_47_code
def yX5_offOfTried : MethodName := ⟨RX5, "offOfTried", "(II)I"⟩
abbrev cX5_fewestThatSee : ByteArray := prog_1_method_48_code
def yX5_fewestThatSee : MethodName := ⟨RX5, "fewestThatSee", "(I)I"⟩
abbrev cX5_fitsFrom : ByteArray := prog_1_method_49_code
def yX5_fitsFrom : MethodName := ⟨RX5, "fitsFrom", "(IILWeatherDisguise$Sheet;)Z"⟩
abbrev cX5_isRow : ByteArray := prog_1_method_50_code
def yX5_isRow : MethodName := ⟨RX5, "isRow", "(II)Z"⟩
abbrev cX5_sheetAt : ByteArray := prog_1_method_51_code
def yX5_sheetAt : MethodName := ⟨RX5, "sheetAt", "(I)LWeatherDisguise$Sheet;"⟩
abbrev cX5_shelfAt : ByteArray := prog_1_method_52_code
def yX5_shelfAt : MethodName := ⟨RX5, "shelfAt", "(I)LWeatherDisguise$Shelf;"⟩
abbrev cX5_holdsAir : ByteArray := prog_1_method_53_code
def yX5_holdsAir : MethodName := ⟨RX5, "holdsAir", "(LWeatherDisguise$Shelf;)Z"⟩
abbrev cX5_isWithin : ByteArray := prog_1_method_54_code
def yX5_isWithin : MethodName := ⟨RX5, "isWithin", "(III)Z"⟩
abbrev cX5_isLaw : ByteArray := prog_1_method_55_code
def yX5_isLaw : MethodName := ⟨RX5, "isLaw", "(I)Z"⟩
abbrev cX5_isKind : ByteArray := prog_1_method_56_code
def yX5_isKind : MethodName := ⟨RX5, "isKind", "(I)Z"⟩
abbrev cX5_isForce : ByteArray := prog_1_method_57_code
def yX5_isForce : MethodName := ⟨RX5, "isForce", "(I)Z"⟩
abbrev cX5_isHouse : ByteArray := prog_1_method_58_code
def yX5_isHouse : MethodName := ⟨RX5, "isHouse", "(I)Z"⟩
abbrev cX5_isIn : ByteArray := prog_1_method_59_code
def yX5_isIn : MethodName := ⟨RX5, "isIn", "(II)Z"⟩
abbrev cX5_held : ByteArray := prog_1_method_60_code
def yX5_held : MethodName := ⟨RX5, "held", "(II)I"⟩
abbrev cX5_isUnder : ByteArray := prog_1_method_61_code
def yX5_isUnder : MethodName := ⟨RX5, "isUnder", "(II)Z"⟩
abbrev cX5_columnOf : ByteArray := prog_1_method_62_code
def yX5_columnOf : MethodName := ⟨RX5, "columnOf", "(I)I"⟩
abbrev cX5_rowOf : ByteArray := prog_1_method_63_code
def yX5_rowOf : MethodName := ⟨RX5, "rowOf", "(I)I"⟩
abbrev cX5_apart : ByteArray := prog_1_method_64_code
def yX5_apart : MethodName := ⟨RX5, "apart", "(II)I"⟩
abbrev cX5_nextHouse : ByteArray := prog_1_method_65_code
def yX5_nextHouse : MethodName := ⟨RX5, "nextHouse", "(II)I"⟩
abbrev cX5_wayTowards : ByteArray := prog_1_method_66_code
def yX5_wayTowards : MethodName := ⟨RX5, "wayTowards", "(II)I"⟩
abbrev cX5_withNext : ByteArray := prog_1_method_67_code
def yX5_withNext : MethodName := ⟨RX5, "withNext", "(I)I"⟩
abbrev cX5_choices : ByteArray := prog_1_method_68_code
def yX5_choices : MethodName := ⟨RX5, "choices", "(II)J"⟩
abbrev cX5_power : ByteArray := prog_1_method_69_code
def yX5_power : MethodName := ⟨RX5, "power", "(JI)J"⟩
abbrev cX5_partOf : ByteArray := prog_1_method_70_code
def yX5_partOf : MethodName := ⟨RX5, "partOf", "(JJI)J"⟩
abbrev cX5_commonDivisor : ByteArray := prog_1_method_71_code
def yX5_commonDivisor : MethodName := ⟨RX5, "commonDivisor", "(JJ)J"⟩
def TX6 : u_T := fun k => match k with
  | 0 => ("WeatherDisguiseModel", "s", "[I", true)
  | 1 => ("WeatherDisguiseModel", "held", "[I", true)
  | 2 => ("WeatherDisguiseModel", "aside", "[I", true)
  | 3 => ("WeatherDisguiseModel", "before", "[I", true)
  | 4 => ("WeatherDisguiseModel", "isHeld", "Z", false)
  | 5 => ("WeatherDisguiseModel", "tape", "[I", true)
  | 6 => ("WeatherDisguiseModel", "taped", "I", false)
  | 7 => ("WeatherDisguiseModel", "token", "I", false)
  | 8 => ("WeatherDisguiseModel", "from", "I", false)
  | 9 => ("WeatherDisguiseModel", "to", "I", false)
  | 10 => ("WeatherDisguiseModel", "value", "I", false)
  | 11 => ("WeatherDisguiseModel", "isWrong", "Z", false)
  | 12 => ("WeatherDisguiseModel", "due", "[I", true)
  | 13 => ("WeatherDisguiseModel", "mere", "[I", true)
  | 14 => ("WeatherDisguiseModel", "seenAt", "[I", true)
  | 15 => ("WeatherDisguiseModel", "fewest", "[I", true)
  | 16 => ("WeatherDisguiseModel", "rows", "[I", true)
  | 17 => ("WeatherDisguiseModel", "rowN", "I", false)
  | 18 => ("WeatherDisguiseModel", "sortOf", "[I", true)
  | 19 => ("WeatherDisguiseModel", "sizeOf", "[I", true)
  | 20 => ("WeatherDisguiseModel", "numbers", "[I", true)
  | 21 => ("WeatherDisguiseModel", "holdsWhat", "[I", true)
  | 22 => ("WeatherDisguiseModel", "holdsWhich", "[I", true)
  | 23 => ("WeatherDisguiseModel", "holdsMany", "[I", true)
  | 24 => ("WeatherDisguiseModel", "bodies", "[I", true)
  | 25 => ("WeatherDisguiseModel", "ran", "I", false)
  | 26 => ("WeatherDisguiseModel", "actKind", "I", false)
  | 27 => ("WeatherDisguiseModel", "actN", "I", false)
  | 28 => ("WeatherDisguiseModel", "actA", "I", false)
  | _ => ("WeatherDisguiseModel", "isParted", "Z", false)
def tyX6 : Nat → FieldType := fun k => match k with
  | 0 => .array .int
  | 1 => .array .int
  | 2 => .array .int
  | 3 => .array .int
  | 4 => .boolean
  | 5 => .array .int
  | 6 => .int
  | 7 => .int
  | 8 => .int
  | 9 => .int
  | 10 => .int
  | 11 => .boolean
  | 12 => .array .int
  | 13 => .array .int
  | 14 => .array .int
  | 15 => .array .int
  | 16 => .array .int
  | 17 => .int
  | 18 => .array .int
  | 19 => .array .int
  | 20 => .array .int
  | 21 => .array .int
  | 22 => .array .int
  | 23 => .array .int
  | 24 => .array .int
  | 25 => .int
  | 26 => .int
  | 27 => .int
  | 28 => .int
  | _ => .boolean
abbrev wsX60 : List Cond := u_ws RX6 TX6 30
theorem nmX6 : ∀ a, a < 30 → ∀ b, b < 30 → a ≠ b → (TX6 a).2.1 ≠ (TX6 b).2.1 := by decide +kernel
theorem tyX6_ok : ∀ k, k < 30 → parseFieldDescriptor (TX6 k).2.2.1 = some (tyX6 k) := by decide +kernel
abbrev cX6_init : ByteArray := prog_8_method_1_code
def yX6_init : MethodName := ⟨RX6, "<init>", "()V"⟩
abbrev cX6_begins : ByteArray := prog_8_method_2_code
def yX6_begins : MethodName := ⟨RX6, "begins", "()V"⟩
abbrev cX6_isIn : ByteArray := prog_8_method_3_code
def yX6_isIn : MethodName := ⟨RX6, "isIn", "(JJJ)Z"⟩
abbrev cX6_isHouse : ByteArray := prog_8_method_4_code
def yX6_isHouse : MethodName := ⟨RX6, "isHouse", "(I)Z"⟩
abbrev cX6_isOne : ByteArray := prog_8_method_5_code
def yX6_isOne : MethodName := ⟨RX6, "isOne", "(I)Z"⟩
abbrev cX6_its : ByteArray := prog_8_method_6_code
def yX6_its : MethodName := ⟨RX6, "its", "(II)I"⟩
abbrev cX6_becomes : ByteArray := prog_8_method_7_code
def yX6_becomes : MethodName := ⟨RX6, "becomes", "(II)I"⟩
abbrev cX6_copyRow : ByteArray := prog_8_method_8_code
def yX6_copyRow : MethodName := ⟨RX6, "copyRow", "([I[I)V"⟩
abbrev cX6_least : ByteArray := prog_8_method_9_code
def yX6_least : MethodName := ⟨RX6, "least", "(II)I"⟩
abbrev cX6_apart : ByteArray := prog_8_method_10_code
def yX6_apart : MethodName := ⟨RX6, "apart", "(II)I"⟩
abbrev cX6_bounded : ByteArray := prog_8_method_11_code
def yX6_bounded : MethodName := ⟨RX6, "bounded", "(II)I"⟩
abbrev cX6_within : ByteArray := prog_8_method_12_code
def yX6_within : MethodName := ⟨RX6, "within", "(I)I"⟩
abbrev cX6_size : ByteArray := prog_8_method_13_code
def yX6_size : MethodName := ⟨RX6, "size", "(I)I"⟩
abbrev cX6_isUnder : ByteArray := prog_8_method_14_code
def yX6_isUnder : MethodName := ⟨RX6, "isUnder", "(II)Z"⟩
abbrev cX6_feed : ByteArray := prog_8_method_15_code
def yX6_feed : MethodName := ⟨RX6, "feed", "(JI)I"⟩
abbrev cX6_isAlpha : ByteArray := prog_8_method_16_code
def yX6_isAlpha : MethodName := ⟨RX6, "isAlpha", "(I)Z"⟩
abbrev cX6_isDigit : ByteArray := prog_8_method_17_code
def yX6_isDigit : MethodName := ⟨RX6, "isDigit", "(I)Z"⟩
abbrev cX6_byteAt : ByteArray := prog_8_method_18_code
def yX6_byteAt : MethodName := ⟨RX6, "byteAt", "(I)I"⟩
abbrev cX6_nextToken : ByteArray := prog_8_method_19_code
def yX6_nextToken : MethodName := ⟨RX6, "nextToken", "()V"⟩
abbrev cX6_needs : ByteArray := prog_8_method_20_code
def yX6_needs : MethodName := ⟨RX6, "needs", "(Z)V"⟩
abbrev cX6_isName : ByteArray := prog_8_method_21_code
def yX6_isName : MethodName := ⟨RX6, "isName", "(IIIII)Z"⟩
abbrev cX6_isSame : ByteArray := prog_8_method_22_code
def yX6_isSame : MethodName := ⟨RX6, "isSame", "(IIII)Z"⟩
abbrev cX6_isFour : ByteArray := prog_8_method_23_code
def yX6_isFour : MethodName := ⟨RX6, "isFour", "(IIII)Z"⟩
abbrev cX6_isFive : ByteArray := prog_8_method_24_code
def yX6_isFive : MethodName := ⟨RX6, "isFive", "(IIIII)Z"⟩
abbrev cX6_kindHere : ByteArray := prog_8_method_25_code
def yX6_kindHere : MethodName := ⟨RX6, "kindHere", "()I"⟩
abbrev cX6_numberTo : ByteArray := prog_8_method_26_code
def yX6_numberTo : MethodName := ⟨RX6, "numberTo", "(III)V"⟩
abbrev cX6_perhaps : ByteArray := prog_8_method_27_code
def yX6_perhaps : MethodName := ⟨RX6, "perhaps", "(ZII)V"⟩
abbrev cX6_isTwo : ByteArray := prog_8_method_28_code
def yX6_isTwo : MethodName := ⟨RX6, "isTwo", "(II)Z"⟩
abbrev cX6_airHere : ByteArray := prog_8_method_29_code
def yX6_airHere : MethodName := ⟨RX6, "airHere", "(I)V"⟩
abbrev cX6_wetHere : ByteArray := prog_8_method_30_code
def yX6_wetHere : MethodName := ⟨RX6, "wetHere", "()V"⟩
abbrev cX6_ownHere : ByteArray := prog_8_method_31_code
def yX6_ownHere : MethodName := ⟨RX6, "ownHere", "()I"⟩
abbrev cX6_itemHere : ByteArray := prog_8_method_32_code
def yX6_itemHere : MethodName := ⟨RX6, "itemHere", "()V"⟩
abbrev cX6_city : ByteArray := prog_8_method_33_code
def yX6_city : MethodName := ⟨RX6, "city", "()I"⟩
abbrev cX6_set : ByteArray := prog_8_method_34_code
def yX6_set : MethodName := ⟨RX6, "set", "(II)I"⟩
abbrev cX6_lawOf : ByteArray := prog_8_method_35_code
def yX6_lawOf : MethodName := ⟨RX6, "lawOf", "(I)I"⟩
abbrev cX6_comes : ByteArray := prog_8_method_36_code
def yX6_comes : MethodName := ⟨RX6, "comes", "(IIII)V"⟩
abbrev cX6_air : ByteArray := prog_8_method_37_code
def yX6_air : MethodName := ⟨RX6, "air", "(IIII)I"⟩
abbrev cX6_nextBy : ByteArray := prog_8_method_38_code
def yX6_nextBy : MethodName := ⟨RX6, "nextBy", "(II)I"⟩
abbrev cX6_towards : ByteArray := prog_8_method_39_code
def yX6_towards : MethodName := ⟨RX6, "towards", "(I)I"⟩
abbrev cX6_wayOf : ByteArray := prog_8_method_40_code
def yX6_wayOf : MethodName := ⟨RX6, "wayOf", "(I)I"⟩
abbrev cX6_wets : ByteArray := prog_8_method_41_code
def yX6_wets : MethodName := ⟨RX6, "wets", "(I)I"⟩
abbrev cX6_of : ByteArray := prog_8_method_42_code
def yX6_of : MethodName := ⟨RX6, "of", "(II)I"⟩
abbrev cX6_mind : ByteArray := prog_8_method_43_code
def yX6_mind : MethodName := ⟨RX6, "mind", "(III)I"⟩
abbrev cX6_bring : ByteArray := prog_8_method_44_code
def yX6_bring : MethodName := ⟨RX6, "bring", "(II)I"⟩
abbrev cX6_send : ByteArray := prog_8_method_45_code
def yX6_send : MethodName := ⟨RX6, "send", "(II)I"⟩
abbrev cX6_blow : ByteArray := prog_8_method_46_code
def yX6_blow : MethodName := ⟨RX6, "blow", "(I)I"⟩
abbrev cX6_pour : ByteArray := prog_8_method_47_code
def yX6_pour : MethodName := ⟨RX6, "pour", "(II)I"⟩
abbrev cX6_thoseAt : ByteArray := prog_8_method_48_code
def yX6_thoseAt : MethodName := ⟨RX6, "thoseAt", "(I)I"⟩
abbrev cX6_house : ByteArray := prog_8_method_49_code
def yX6_house : MethodName := ⟨RX6, "house", "(II)I"⟩
abbrev cX6_goesOn : ByteArray := prog_8_method_50_code
def yX6_goesOn : MethodName := ⟨RX6, "goesOn", "()V"⟩
abbrev cX6_goes : ByteArray := prog_8_method_51_code
def yX6_goes : MethodName := ⟨RX6, "goes", "(I)V"⟩
abbrev cX6_stopped : ByteArray := prog_8_method_52_code
def yX6_stopped : MethodName := ⟨RX6, "stopped", "()I"⟩
abbrev cX6_steps : ByteArray := prog_8_method_53_code
def yX6_steps : MethodName := ⟨RX6, "steps", "(I)I"⟩
abbrev cX6_seed : ByteArray := prog_8_method_54_code
def yX6_seed : MethodName := ⟨RX6, "seed", "(I)I"⟩
abbrev cX6_drawn : ByteArray := prog_8_method_55_code
def yX6_drawn : MethodName := ⟨RX6, "drawn", "()I"⟩
abbrev cX6_step : ByteArray := prog_8_method_56_code
def yX6_step : MethodName := ⟨RX6, "step", "()I"⟩
abbrev cX6_blown : ByteArray := prog_8_method_57_code
def yX6_blown : MethodName := ⟨RX6, "blown", "(I)I"⟩
abbrev cX6_housesInUse : ByteArray := prog_8_method_58_code
def yX6_housesInUse : MethodName := ⟨RX6, "housesInUse", "()I"⟩
abbrev cX6_wetBy : ByteArray := prog_8_method_59_code
def yX6_wetBy : MethodName := ⟨RX6, "wetBy", "(I)I"⟩
abbrev cX6_wetOfAll : ByteArray := prog_8_method_60_code
def yX6_wetOfAll : MethodName := ⟨RX6, "wetOfAll", "()I"⟩
abbrev cX6_state : ByteArray := prog_8_method_61_code
def yX6_state : MethodName := ⟨RX6, "state", "(I)I"⟩
abbrev cX6_whereBehind : ByteArray := prog_8_method_62_code
def yX6_whereBehind : MethodName := ⟨RX6, "whereBehind", "(II)I"⟩
abbrev cX6_where : ByteArray := prog_8_method_63_code
def yX6_where : MethodName := ⟨RX6, "where", "(II)I"⟩
abbrev cX6_stops : ByteArray := prog_8_method_64_code
def yX6_stops : MethodName := ⟨RX6, "stops", "(I)I"⟩
abbrev cX6_meets : ByteArray := prog_8_method_65_code
def yX6_meets : MethodName := ⟨RX6, "meets", "(II)I"⟩
abbrev cX6_told : ByteArray := prog_8_method_66_code
def yX6_told : MethodName := ⟨RX6, "told", "(I)I"⟩
abbrev cX6_offNow : ByteArray := prog_8_method_67_code
def yX6_offNow : MethodName := ⟨RX6, "offNow", "(I)I"⟩
abbrev cX6_offBehind : ByteArray := prog_8_method_68_code
def yX6_offBehind : MethodName := ⟨RX6, "offBehind", "(II)I"⟩
abbrev cX6_off : ByteArray := prog_8_method_69_code
def yX6_off : MethodName := ⟨RX6, "off", "(II)I"⟩
abbrev cX6_isShort : ByteArray := prog_8_method_70_code
def yX6_isShort : MethodName := ⟨RX6, "isShort", "(I)Z"⟩
abbrev cX6_nearestBy : ByteArray := prog_8_method_71_code
def yX6_nearestBy : MethodName := ⟨RX6, "nearestBy", "(IIII)I"⟩
abbrev cX6_windFor : ByteArray := prog_8_method_72_code
def yX6_windFor : MethodName := ⟨RX6, "windFor", "(II)I"⟩
abbrev cX6_kindFor : ByteArray := prog_8_method_73_code
def yX6_kindFor : MethodName := ⟨RX6, "kindFor", "(II)I"⟩
abbrev cX6_seen : ByteArray := prog_8_method_74_code
def yX6_seen : MethodName := ⟨RX6, "seen", "(I)I"⟩
abbrev cX6_dryWay : ByteArray := prog_8_method_75_code
def yX6_dryWay : MethodName := ⟨RX6, "dryWay", "(II)I"⟩
abbrev cX6_product : ByteArray := prog_8_method_76_code
def yX6_product : MethodName := ⟨RX6, "product", "(I)J"⟩
abbrev cX6_partOf : ByteArray := prog_8_method_77_code
def yX6_partOf : MethodName := ⟨RX6, "partOf", "(JJI)J"⟩
abbrev cX6_isTold : ByteArray := prog_8_method_78_code
def yX6_isTold : MethodName := ⟨RX6, "isTold", "(II)Z"⟩
abbrev cX6_fits : ByteArray := prog_8_method_79_code
def yX6_fits : MethodName := ⟨RX6, "fits", "(III)I"⟩
abbrev cX6_odds : ByteArray := prog_8_method_80_code
def yX6_odds : MethodName := ⟨RX6, "odds", "(III)J"⟩
abbrev cX6_hope : ByteArray := prog_8_method_81_code
def yX6_hope : MethodName := ⟨RX6, "hope", "(II)J"⟩
abbrev cX6_prove : ByteArray := prog_8_method_82_code
def yX6_prove : MethodName := ⟨RX6, "prove", "(II)I"⟩
abbrev cX6_isRow : ByteArray := prog_8_method_83_code
def yX6_isRow : MethodName := ⟨RX6, "isRow", "(II)Z"⟩
abbrev cX6_row : ByteArray := prog_8_method_84_code
def yX6_row : MethodName := ⟨RX6, "row", "(II)I"⟩
abbrev cX6_alterRow : ByteArray := prog_8_method_85_code
def yX6_alterRow : MethodName := ⟨RX6, "alterRow", "(III)I"⟩
abbrev cX6_judge : ByteArray := prog_8_method_86_code
def yX6_judge : MethodName := ⟨RX6, "judge", "(I)I"⟩
abbrev cX6_isSheet : ByteArray := prog_8_method_87_code
def yX6_isSheet : MethodName := ⟨RX6, "isSheet", "(I)Z"⟩
abbrev cX6_isShelf : ByteArray := prog_8_method_88_code
def yX6_isShelf : MethodName := ⟨RX6, "isShelf", "(I)Z"⟩
abbrev cX6_sheet : ByteArray := prog_8_method_89_code
def yX6_sheet : MethodName := ⟨RX6, "sheet", "(III)I"⟩
abbrev cX6_put : ByteArray := prog_8_method_90_code
def yX6_put : MethodName := ⟨RX6, "put", "(III)I"⟩
abbrev cX6_lacks : ByteArray := prog_8_method_91_code
def yX6_lacks : MethodName := ⟨RX6, "lacks", "(II)I"⟩
abbrev cX6_item : ByteArray := prog_8_method_92_code
def yX6_item : MethodName := ⟨RX6, "item", "(III)I"⟩
abbrev cX6_minds : ByteArray := prog_8_method_93_code
def yX6_minds : MethodName := ⟨RX6, "minds", "(IIII)I"⟩
abbrev cX6_shelf : ByteArray := prog_8_method_94_code
def yX6_shelf : MethodName := ⟨RX6, "shelf", "(III)I"⟩
abbrev cX6_heldOn : ByteArray := prog_8_method_95_code
def yX6_heldOn : MethodName := ⟨RX6, "heldOn", "(I)I"⟩
abbrev cX6_taken : ByteArray := prog_8_method_96_code
def yX6_taken : MethodName := ⟨RX6, "taken", "(II)I"⟩
abbrev cX6_runs : ByteArray := prog_8_method_97_code
def yX6_runs : MethodName := ⟨RX6, "runs", "(I)V"⟩
abbrev cX6_driftsPlain : ByteArray := prog_8_method_98_code
def yX6_driftsPlain : MethodName := ⟨RX6, "driftsPlain", "(I)I"⟩
abbrev cX6_driftsOfFog : ByteArray := prog_8_method_99_code
def yX6_driftsOfFog : MethodName := ⟨RX6, "driftsOfFog", "(I)I"⟩
abbrev cX6_drifts : ByteArray := prog_8_method_100_code
def yX6_drifts : MethodName := ⟨RX6, "drifts", "(I)I"⟩
abbrev cX6_dripsPlain : ByteArray := prog_8_method_101_code
def yX6_dripsPlain : MethodName := ⟨RX6, "dripsPlain", "(I)I"⟩
abbrev cX6_drips : ByteArray := prog_8_method_102_code
def yX6_drips : MethodName := ⟨RX6, "drips", "(I)I"⟩
abbrev cX6_partsPlain : ByteArray := prog_8_method_103_code
def yX6_partsPlain : MethodName := ⟨RX6, "partsPlain", "(I)I"⟩
abbrev cX6_parts : ByteArray := prog_8_method_104_code
def yX6_parts : MethodName := ⟨RX6, "parts", "(I)I"⟩
abbrev cX6_haltsPlain : ByteArray := prog_8_method_105_code
def yX6_haltsPlain : MethodName := ⟨RX6, "haltsPlain", "(I)I"⟩
abbrev cX6_halts : ByteArray := prog_8_method_106_code
def yX6_halts : MethodName := ⟨RX6, "halts", "(I)I"⟩
abbrev cX6_act : ByteArray := prog_8_method_107_code
def yX6_act : MethodName := ⟨RX6, "act", "(III)I"⟩
abbrev cX6_trace : ByteArray := prog_8_method_108_code
def yX6_trace : MethodName := ⟨RX6, "trace", "(I)I"⟩
abbrev cX6_many : ByteArray := prog_8_method_109_code
def yX6_many : MethodName := ⟨RX6, "many", "(I)I"⟩
abbrev cX6_keep : ByteArray := prog_8_method_110_code
def yX6_keep : MethodName := ⟨RX6, "keep", "()I"⟩
abbrev cX6_again : ByteArray := prog_8_method_111_code
def yX6_again : MethodName := ⟨RX6, "again", "()I"⟩
def TJ6 : u_T := fun k => match k with
  | _ => ("", "", "", false)
def tyJ6 : Nat → FieldType := fun k => match k with
  | _ => .int
abbrev wsJ60 : List Cond := u_ws RJ6 TJ6 0
theorem nmJ6 : ∀ a, a < 0 → ∀ b, b < 0 → a ≠ b → (TJ6 a).2.1 ≠ (TJ6 b).2.1 := by decide +kernel
theorem tyJ6_ok : ∀ k, k < 0 → parseFieldDescriptor (TJ6 k).2.2.1 = some (tyJ6 k) := by decide +kernel
abbrev cJ6_bitCount_0f7a4 : ByteArray := prog_9_method_49_code
def yJ6_bitCount_0f7a4 : MethodName := ⟨RJ6, "bitCount", "(I)I"⟩
def TJ9 : u_T := fun k => match k with
  | _ => ("", "", "", false)
def tyJ9 : Nat → FieldType := fun k => match k with
  | _ => .int
abbrev wsJ90 : List Cond := u_ws RJ9 TJ9 0
theorem nmJ9 : ∀ a, a < 0 → ∀ b, b < 0 → a ≠ b → (TJ9 a).2.1 ≠ (TJ9 b).2.1 := by decide +kernel
theorem tyJ9_ok : ∀ k, k < 0 → parseFieldDescriptor (TJ9 k).2.2.1 = some (tyJ9 k) := by decide +kernel
abbrev cJ9_abs_0f7a4 : ByteArray := prog_10_method_59_code
def yJ9_abs_0f7a4 : MethodName := ⟨RJ9, "abs", "(I)I"⟩
abbrev cJ9_max_7cf53 : ByteArray := prog_10_method_65_code
def yJ9_max_7cf53 : MethodName := ⟨RJ9, "max", "(II)I"⟩
abbrev cJ9_max_f86c9 : ByteArray := prog_10_method_66_code
def yJ9_max_f86c9 : MethodName := ⟨RJ9, "max", "(JJ)J"⟩
abbrev cJ9_min_7cf53 : ByteArray := prog_10_method_69_code
def yJ9_min_7cf53 : MethodName := ⟨RJ9, "min", "(II)I"⟩
def TJ0 : u_T := fun k => match k with
  | _ => ("", "", "", false)
def tyJ0 : Nat → FieldType := fun k => match k with
  | _ => .int
abbrev wsJ00 : List Cond := u_ws RJ0 TJ0 0
theorem nmJ0 : ∀ a, a < 0 → ∀ b, b < 0 → a ≠ b → (TJ0 a).2.1 ≠ (TJ0 b).2.1 := by decide +kernel
theorem tyJ0_ok : ∀ k, k < 0 → parseFieldDescriptor (TJ0 k).2.2.1 = some (tyJ0 k) := by decide +kernel
abbrev cJ0_length_8abf5 : ByteArray := prog_11_method_54_code
def yJ0_length_8abf5 : MethodName := ⟨RJ0, "length", "()I"⟩
abbrev cJ0_charAt_5068e : ByteArray := prog_11_method_56_code
def yJ0_charAt_5068e : MethodName := ⟨RJ0, "charAt", "(I)C"⟩
abbrev cJ0_coder_7d493 : ByteArray := prog_11_method_152_code
def yJ0_coder_7d493 : MethodName := ⟨RJ0, "coder", "()B"⟩
abbrev cJ0_isLatin1_aae02 : ByteArray := prog_11_method_154_code
def yJ0_isLatin1_aae02 : MethodName := ⟨RJ0, "isLatin1", "()Z"⟩
abbrev cJ0_checkIndex_df160 : ByteArray := prog_11_method_155_code
def yJ0_checkIndex_df160 : MethodName := ⟨RJ0, "checkIndex", "(II)V"⟩
def TJ1 : u_T := fun k => match k with
  | _ => ("", "", "", false)
def tyJ1 : Nat → FieldType := fun k => match k with
  | _ => .int
abbrev wsJ10 : List Cond := u_ws RJ1 TJ1 0
theorem nmJ1 : ∀ a, a < 0 → ∀ b, b < 0 → a ≠ b → (TJ1 a).2.1 ≠ (TJ1 b).2.1 := by decide +kernel
theorem tyJ1_ok : ∀ k, k < 0 → parseFieldDescriptor (TJ1 k).2.2.1 = some (tyJ1 k) := by decide +kernel
abbrev cJ1_charAt_3b067 : ByteArray := prog_12_method_2_code
def yJ1_charAt_3b067 : MethodName := ⟨RJ1, "charAt", "([BI)C"⟩
def TJ2 : u_T := fun k => match k with
  | _ => ("", "", "", false)
def tyJ2 : Nat → FieldType := fun k => match k with
  | _ => .int
abbrev wsJ20 : List Cond := u_ws RJ2 TJ2 0
theorem nmJ2 : ∀ a, a < 0 → ∀ b, b < 0 → a ≠ b → (TJ2 a).2.1 ≠ (TJ2 b).2.1 := by decide +kernel
theorem tyJ2_ok : ∀ k, k < 0 → parseFieldDescriptor (TJ2 k).2.2.1 = some (tyJ2 k) := by decide +kernel
abbrev cJ2_getChar_3b067 : ByteArray := prog_13_method_5_code
def yJ2_getChar_3b067 : MethodName := ⟨RJ2, "getChar", "([BI)C"⟩
abbrev cJ2_length_9d52b : ByteArray := prog_13_method_6_code
def yJ2_length_9d52b : MethodName := ⟨RJ2, "length", "([B)I"⟩
abbrev cJ2_charAt_3b067 : ByteArray := prog_13_method_83_code
def yJ2_charAt_3b067 : MethodName := ⟨RJ2, "charAt", "([BI)C"⟩
abbrev cJ2_checkIndex_2214a : ByteArray := prog_13_method_91_code
def yJ2_checkIndex_2214a : MethodName := ⟨RJ2, "checkIndex", "(I[B)V"⟩
def TJ10 : u_T := fun k => match k with
  | _ => ("", "", "", false)
def tyJ10 : Nat → FieldType := fun k => match k with
  | _ => .int
theorem nmJ10 : ∀ a, a < 0 → ∀ b, b < 0 → a ≠ b → (TJ10 a).2.1 ≠ (TJ10 b).2.1 := by decide +kernel
def TJ7 : u_T := fun k => match k with
  | _ => ("", "", "", false)
def tyJ7 : Nat → FieldType := fun k => match k with
  | _ => .int
abbrev wsJ70 : List Cond := u_ws RJ7 TJ7 0
theorem nmJ7 : ∀ a, a < 0 → ∀ b, b < 0 → a ≠ b → (TJ7 a).2.1 ≠ (TJ7 b).2.1 := by decide +kernel
theorem tyJ7_ok : ∀ k, k < 0 → parseFieldDescriptor (TJ7 k).2.2.1 = some (tyJ7 k) := by decide +kernel
abbrev cJ7_fill_53178 : ByteArray := prog_15_method_103_code
def yJ7_fill_53178 : MethodName := ⟨RJ7, "fill", "([II)V"⟩
def TJ3 : u_T := fun k => match k with
  | _ => ("", "", "", false)
def tyJ3 : Nat → FieldType := fun k => match k with
  | _ => .int
abbrev wsJ30 : List Cond := u_ws RJ3 TJ3 0
theorem nmJ3 : ∀ a, a < 0 → ∀ b, b < 0 → a ≠ b → (TJ3 a).2.1 ≠ (TJ3 b).2.1 := by decide +kernel
theorem tyJ3_ok : ∀ k, k < 0 → parseFieldDescriptor (TJ3 k).2.2.1 = some (tyJ3 k) := by decide +kernel
abbrev cJ3_checkIndex_8e157 : ByteArray := prog_16_method_11_code
def yJ3_checkIndex_8e157 : MethodName := ⟨RJ3, "checkIndex", "(IILjava/util/function/BiFunction;)I"⟩
abbrev cL_law : ByteArray := code
def yL_law : MethodName := ⟨RL, "law", "([I)Z"⟩
end
section
theorem dX0_init_0 : decode cX0_init 0 = .ok (.aload_n 0, 1) := by decide +kernel
theorem dX0_init_1 : decode cX0_init 1 = .ok (.invokespecial 3, 3) := by decide +kernel
theorem dX0_init_4 : decode cX0_init 4 = .ok (.aload_n 0, 1) := by decide +kernel
theorem dX0_init_5 : decode cX0_init 5 = .ok (.bipush 30, 2) := by decide +kernel
theorem dX0_init_7 : decode cX0_init 7 = .ok (.newarray .int, 2) := by decide +kernel
theorem dX0_init_9 : decode cX0_init 9 = .ok (.putfield 11, 3) := by decide +kernel
theorem dX0_init_12 : decode cX0_init 12 = .ok (.return_, 1) := by decide +kernel
theorem dX0_takeThing_0 : decode cX0_takeThing 0 = .ok (.aload_n 0, 1) := by decide +kernel
theorem dX0_takeThing_1 : decode cX0_takeThing 1 = .ok (.iload_n 1, 1) := by decide +kernel
theorem dX0_takeThing_2 : decode cX0_takeThing 2 = .ok (.putfield 15, 3) := by decide +kernel
theorem dX0_takeThing_5 : decode cX0_takeThing 5 = .ok (.aload_n 0, 1) := by decide +kernel
theorem dX0_takeThing_6 : decode cX0_takeThing 6 = .ok (.iload_n 2, 1) := by decide +kernel
theorem dX0_takeThing_7 : decode cX0_takeThing 7 = .ok (.putfield 19, 3) := by decide +kernel
theorem dX0_takeThing_10 : decode cX0_takeThing 10 = .ok (.aload_n 0, 1) := by decide +kernel
theorem dX0_takeThing_11 : decode cX0_takeThing 11 = .ok (.iload_n 3, 1) := by decide +kernel
theorem dX0_takeThing_12 : decode cX0_takeThing 12 = .ok (.putfield 22, 3) := by decide +kernel
theorem dX0_takeThing_15 : decode cX0_takeThing 15 = .ok (.return_, 1) := by decide +kernel
theorem dX0_perform_0 : decode cX0_perform 0 = .ok (.aload_n 0, 1) := by decide +kernel
theorem dX0_perform_1 : decode cX0_perform 1 = .ok (.iconst 0, 1) := by decide +kernel
theorem dX0_perform_2 : decode cX0_perform 2 = .ok (.putfield 25, 3) := by decide +kernel
theorem dX0_perform_5 : decode cX0_perform 5 = .ok (.aload_n 0, 1) := by decide +kernel
theorem dX0_perform_6 : decode cX0_perform 6 = .ok (.aload_n 0, 1) := by decide +kernel
theorem dX0_perform_7 : decode cX0_perform 7 = .ok (.iload_n 1, 1) := by decide +kernel
theorem dX0_perform_8 : decode cX0_perform 8 = .ok (.invokevirtual 29, 3) := by decide +kernel
theorem dX0_perform_11 : decode cX0_perform 11 = .ok (.iload_n 2, 1) := by decide +kernel
theorem dX0_perform_12 : decode cX0_perform 12 = .ok (.iconst 0, 1) := by decide +kernel
theorem dX0_perform_13 : decode cX0_perform 13 = .ok (.invokestatic 33, 3) := by decide +kernel
theorem dX0_perform_16 : decode cX0_perform 16 = .ok (.ireturn, 1) := by decide +kernel
theorem dX0_bodyOf_0 : decode cX0_bodyOf 0 = .ok (.aload_n 0, 1) := by decide +kernel
theorem dX0_bodyOf_1 : decode cX0_bodyOf 1 = .ok (.getfield 15, 3) := by decide +kernel
theorem dX0_bodyOf_4 : decode cX0_bodyOf 4 = .ok (.iconst 4, 1) := by decide +kernel
theorem dX0_bodyOf_5 : decode cX0_bodyOf 5 = .ok (.imul, 1) := by decide +kernel
theorem dX0_bodyOf_6 : decode cX0_bodyOf 6 = .ok (.iload_n 1, 1) := by decide +kernel
theorem dX0_bodyOf_7 : decode cX0_bodyOf 7 = .ok (.iadd, 1) := by decide +kernel
theorem dX0_bodyOf_8 : decode cX0_bodyOf 8 = .ok (.istore_n 2, 1) := by decide +kernel
theorem dX0_bodyOf_9 : decode cX0_bodyOf 9 = .ok (.iload_n 2, 1) := by decide +kernel
theorem dX0_bodyOf_10 : decode cX0_bodyOf 10 = .ok (.iconst 0, 1) := by decide +kernel
theorem dX0_bodyOf_11 : decode cX0_bodyOf 11 = .ok (.getstatic 37, 3) := by decide +kernel
theorem dX0_bodyOf_14 : decode cX0_bodyOf 14 = .ok (.arraylength, 1) := by decide +kernel
theorem dX0_bodyOf_15 : decode cX0_bodyOf 15 = .ok (.iconst 1, 1) := by decide +kernel
theorem dX0_bodyOf_16 : decode cX0_bodyOf 16 = .ok (.isub, 1) := by decide +kernel
theorem dX0_bodyOf_17 : decode cX0_bodyOf 17 = .ok (.invokestatic 40, 3) := by decide +kernel
theorem dX0_bodyOf_20 : decode cX0_bodyOf 20 = .ok (.ifCond .eq 11, 3) := by decide +kernel
theorem dX0_bodyOf_23 : decode cX0_bodyOf 23 = .ok (.getstatic 37, 3) := by decide +kernel
theorem dX0_bodyOf_26 : decode cX0_bodyOf 26 = .ok (.iload_n 2, 1) := by decide +kernel
theorem dX0_bodyOf_27 : decode cX0_bodyOf 27 = .ok (.iaload, 1) := by decide +kernel
theorem dX0_bodyOf_28 : decode cX0_bodyOf 28 = .ok (.goto 4, 3) := by decide +kernel
theorem dX0_bodyOf_31 : decode cX0_bodyOf 31 = .ok (.iconst 0, 1) := by decide +kernel
theorem dX0_bodyOf_32 : decode cX0_bodyOf 32 = .ok (.ireturn, 1) := by decide +kernel
theorem dX0_run_0 : decode cX0_run 0 = .ok (.aload_n 0, 1) := by decide +kernel
theorem dX0_run_1 : decode cX0_run 1 = .ok (.getfield 25, 3) := by decide +kernel
theorem dX0_run_4 : decode cX0_run 4 = .ok (.ifCond .ne 9, 3) := by decide +kernel
theorem dX0_run_7 : decode cX0_run 7 = .ok (.iload_n 3, 1) := by decide +kernel
theorem dX0_run_8 : decode cX0_run 8 = .ok (.bipush 40, 2) := by decide +kernel
theorem dX0_run_10 : decode cX0_run 10 = .ok (.if_icmp .le 5, 3) := by decide +kernel
theorem dX0_run_13 : decode cX0_run 13 = .ok (.iconst 0, 1) := by decide +kernel
theorem dX0_run_14 : decode cX0_run 14 = .ok (.ireturn, 1) := by decide +kernel
theorem dX0_run_15 : decode cX0_run 15 = .ok (.aload_n 0, 1) := by decide +kernel
theorem dX0_run_16 : decode cX0_run 16 = .ok (.iload_n 1, 1) := by decide +kernel
theorem dX0_run_17 : decode cX0_run 17 = .ok (.invokevirtual 44, 3) := by decide +kernel
theorem dX0_run_20 : decode cX0_run 20 = .ok (.iload_n 3, 1) := by decide +kernel
theorem dX0_run_21 : decode cX0_run 21 = .ok (.iconst 1, 1) := by decide +kernel
theorem dX0_run_22 : decode cX0_run 22 = .ok (.iadd, 1) := by decide +kernel
theorem dX0_run_23 : decode cX0_run 23 = .ok (.istore 4, 2) := by decide +kernel
theorem dX0_run_25 : decode cX0_run 25 = .ok (.iload_n 1, 1) := by decide +kernel
theorem dX0_run_26 : decode cX0_run 26 = .ok (.tableswitch 443 10 61 #[222, 232, 252, 267, 443, 443, 443, 443, 443, 443, 284, 443, 443, 443, 443, 443, 443, 443, 443, 443, 296, 308, 443, 443, 443, 443, 443, 443, 443, 443, 334, 347, 443, 443, 443, 443, 443, 443, 443, 443, 373, 390, 443, 443, 443, 443, 443, 443, 443, 443, 405, 417], 222) := by decide +kernel
theorem dX0_run_248 : decode cX0_run 248 = .ok (.iload_n 2, 1) := by decide +kernel
theorem dX0_run_249 : decode cX0_run 249 = .ok (.bipush 9, 2) := by decide +kernel
theorem dX0_run_251 : decode cX0_run 251 = .ok (.imul, 1) := by decide +kernel
theorem dX0_run_252 : decode cX0_run 252 = .ok (.aload_n 0, 1) := by decide +kernel
theorem dX0_run_253 : decode cX0_run 253 = .ok (.getfield 19, 3) := by decide +kernel
theorem dX0_run_256 : decode cX0_run 256 = .ok (.iadd, 1) := by decide +kernel
theorem dX0_run_257 : decode cX0_run 257 = .ok (.ireturn, 1) := by decide +kernel
theorem dX0_run_258 : decode cX0_run 258 = .ok (.aload_n 0, 1) := by decide +kernel
theorem dX0_run_259 : decode cX0_run 259 = .ok (.aload_n 0, 1) := by decide +kernel
theorem dX0_run_260 : decode cX0_run 260 = .ok (.iconst 0, 1) := by decide +kernel
theorem dX0_run_261 : decode cX0_run 261 = .ok (.invokevirtual 29, 3) := by decide +kernel
theorem dX0_run_264 : decode cX0_run 264 = .ok (.iload_n 2, 1) := by decide +kernel
theorem dX0_run_265 : decode cX0_run 265 = .ok (.iload 4, 2) := by decide +kernel
theorem dX0_run_267 : decode cX0_run 267 = .ok (.invokestatic 33, 3) := by decide +kernel
theorem dX0_run_270 : decode cX0_run 270 = .ok (.aload_n 0, 1) := by decide +kernel
theorem dX0_run_271 : decode cX0_run 271 = .ok (.getfield 22, 3) := by decide +kernel
theorem dX0_run_274 : decode cX0_run 274 = .ok (.iconst 3, 1) := by decide +kernel
theorem dX0_run_275 : decode cX0_run 275 = .ok (.imul, 1) := by decide +kernel
theorem dX0_run_276 : decode cX0_run 276 = .ok (.isub, 1) := by decide +kernel
theorem dX0_run_277 : decode cX0_run 277 = .ok (.ireturn, 1) := by decide +kernel
theorem dX0_run_278 : decode cX0_run 278 = .ok (.aload_n 0, 1) := by decide +kernel
theorem dX0_run_279 : decode cX0_run 279 = .ok (.iload_n 2, 1) := by decide +kernel
theorem dX0_run_280 : decode cX0_run 280 = .ok (.aload_n 0, 1) := by decide +kernel
theorem dX0_run_281 : decode cX0_run 281 = .ok (.getfield 22, 3) := by decide +kernel
theorem dX0_run_284 : decode cX0_run 284 = .ok (.aload_n 0, 1) := by decide +kernel
theorem dX0_run_285 : decode cX0_run 285 = .ok (.getfield 19, 3) := by decide +kernel
theorem dX0_run_288 : decode cX0_run 288 = .ok (.isub, 1) := by decide +kernel
theorem dX0_run_289 : decode cX0_run 289 = .ok (.invokevirtual 48, 3) := by decide +kernel
theorem dX0_run_292 : decode cX0_run 292 = .ok (.ireturn, 1) := by decide +kernel
theorem dX0_run_293 : decode cX0_run 293 = .ok (.aload_n 0, 1) := by decide +kernel
theorem dX0_run_294 : decode cX0_run 294 = .ok (.aload_n 0, 1) := by decide +kernel
theorem dX0_run_295 : decode cX0_run 295 = .ok (.iconst 1, 1) := by decide +kernel
theorem dX0_run_296 : decode cX0_run 296 = .ok (.invokevirtual 29, 3) := by decide +kernel
theorem dX0_run_299 : decode cX0_run 299 = .ok (.iload_n 2, 1) := by decide +kernel
theorem dX0_run_300 : decode cX0_run 300 = .ok (.iload 4, 2) := by decide +kernel
theorem dX0_run_302 : decode cX0_run 302 = .ok (.invokestatic 33, 3) := by decide +kernel
theorem dX0_run_305 : decode cX0_run 305 = .ok (.sipush 130, 3) := by decide +kernel
theorem dX0_run_308 : decode cX0_run 308 = .ok (.ixor, 1) := by decide +kernel
theorem dX0_run_309 : decode cX0_run 309 = .ok (.ireturn, 1) := by decide +kernel
theorem dX0_run_310 : decode cX0_run 310 = .ok (.aload_n 0, 1) := by decide +kernel
theorem dX0_run_311 : decode cX0_run 311 = .ok (.bipush 11, 2) := by decide +kernel
theorem dX0_run_313 : decode cX0_run 313 = .ok (.iload_n 2, 1) := by decide +kernel
theorem dX0_run_314 : decode cX0_run 314 = .ok (.iload 4, 2) := by decide +kernel
theorem dX0_run_316 : decode cX0_run 316 = .ok (.invokestatic 33, 3) := by decide +kernel
theorem dX0_run_319 : decode cX0_run 319 = .ok (.iconst 2, 1) := by decide +kernel
theorem dX0_run_320 : decode cX0_run 320 = .ok (.iadd, 1) := by decide +kernel
theorem dX0_run_321 : decode cX0_run 321 = .ok (.ireturn, 1) := by decide +kernel
theorem dX0_run_322 : decode cX0_run 322 = .ok (.iconst 0, 1) := by decide +kernel
theorem dX0_run_323 : decode cX0_run 323 = .ok (.aload_n 0, 1) := by decide +kernel
theorem dX0_run_324 : decode cX0_run 324 = .ok (.bipush 10, 2) := by decide +kernel
theorem dX0_run_326 : decode cX0_run 326 = .ok (.iload_n 2, 1) := by decide +kernel
theorem dX0_run_327 : decode cX0_run 327 = .ok (.iload 4, 2) := by decide +kernel
theorem dX0_run_329 : decode cX0_run 329 = .ok (.invokestatic 33, 3) := by decide +kernel
theorem dX0_run_332 : decode cX0_run 332 = .ok (.isub, 1) := by decide +kernel
theorem dX0_run_333 : decode cX0_run 333 = .ok (.ireturn, 1) := by decide +kernel
theorem dX0_run_334 : decode cX0_run 334 = .ok (.aload_n 0, 1) := by decide +kernel
theorem dX0_run_335 : decode cX0_run 335 = .ok (.bipush 13, 2) := by decide +kernel
theorem dX0_run_337 : decode cX0_run 337 = .ok (.iload_n 2, 1) := by decide +kernel
theorem dX0_run_338 : decode cX0_run 338 = .ok (.iload 4, 2) := by decide +kernel
theorem dX0_run_340 : decode cX0_run 340 = .ok (.invokestatic 33, 3) := by decide +kernel
theorem dX0_run_343 : decode cX0_run 343 = .ok (.aload_n 0, 1) := by decide +kernel
theorem dX0_run_344 : decode cX0_run 344 = .ok (.aload_n 0, 1) := by decide +kernel
theorem dX0_run_345 : decode cX0_run 345 = .ok (.iconst 2, 1) := by decide +kernel
theorem dX0_run_346 : decode cX0_run 346 = .ok (.invokevirtual 29, 3) := by decide +kernel
theorem dX0_run_349 : decode cX0_run 349 = .ok (.aload_n 0, 1) := by decide +kernel
theorem dX0_run_350 : decode cX0_run 350 = .ok (.getfield 19, 3) := by decide +kernel
theorem dX0_run_353 : decode cX0_run 353 = .ok (.iload 4, 2) := by decide +kernel
theorem dX0_run_355 : decode cX0_run 355 = .ok (.invokestatic 33, 3) := by decide +kernel
theorem dX0_run_358 : decode cX0_run 358 = .ok (.isub, 1) := by decide +kernel
theorem dX0_run_359 : decode cX0_run 359 = .ok (.ireturn, 1) := by decide +kernel
theorem dX0_run_360 : decode cX0_run 360 = .ok (.aload_n 0, 1) := by decide +kernel
theorem dX0_run_361 : decode cX0_run 361 = .ok (.bipush 30, 2) := by decide +kernel
theorem dX0_run_363 : decode cX0_run 363 = .ok (.iload_n 2, 1) := by decide +kernel
theorem dX0_run_364 : decode cX0_run 364 = .ok (.iload 4, 2) := by decide +kernel
theorem dX0_run_366 : decode cX0_run 366 = .ok (.invokestatic 33, 3) := by decide +kernel
theorem dX0_run_369 : decode cX0_run 369 = .ok (.bipush 6, 2) := by decide +kernel
theorem dX0_run_371 : decode cX0_run 371 = .ok (.iadd, 1) := by decide +kernel
theorem dX0_run_372 : decode cX0_run 372 = .ok (.ireturn, 1) := by decide +kernel
theorem dX0_run_373 : decode cX0_run 373 = .ok (.aload_n 0, 1) := by decide +kernel
theorem dX0_run_374 : decode cX0_run 374 = .ok (.bipush 11, 2) := by decide +kernel
theorem dX0_run_376 : decode cX0_run 376 = .ok (.iload_n 2, 1) := by decide +kernel
theorem dX0_run_377 : decode cX0_run 377 = .ok (.iload 4, 2) := by decide +kernel
theorem dX0_run_379 : decode cX0_run 379 = .ok (.invokestatic 33, 3) := by decide +kernel
theorem dX0_run_382 : decode cX0_run 382 = .ok (.aload_n 0, 1) := by decide +kernel
theorem dX0_run_383 : decode cX0_run 383 = .ok (.aload_n 0, 1) := by decide +kernel
theorem dX0_run_384 : decode cX0_run 384 = .ok (.iconst 0, 1) := by decide +kernel
theorem dX0_run_385 : decode cX0_run 385 = .ok (.invokevirtual 29, 3) := by decide +kernel
theorem dX0_run_388 : decode cX0_run 388 = .ok (.aload_n 0, 1) := by decide +kernel
theorem dX0_run_389 : decode cX0_run 389 = .ok (.getfield 22, 3) := by decide +kernel
theorem dX0_run_392 : decode cX0_run 392 = .ok (.iload 4, 2) := by decide +kernel
theorem dX0_run_394 : decode cX0_run 394 = .ok (.invokestatic 33, 3) := by decide +kernel
theorem dX0_run_397 : decode cX0_run 397 = .ok (.ixor, 1) := by decide +kernel
theorem dX0_run_398 : decode cX0_run 398 = .ok (.ireturn, 1) := by decide +kernel
theorem dX0_run_399 : decode cX0_run 399 = .ok (.aload_n 0, 1) := by decide +kernel
theorem dX0_run_400 : decode cX0_run 400 = .ok (.bipush 12, 2) := by decide +kernel
theorem dX0_run_402 : decode cX0_run 402 = .ok (.iload_n 2, 1) := by decide +kernel
theorem dX0_run_403 : decode cX0_run 403 = .ok (.aload_n 0, 1) := by decide +kernel
theorem dX0_run_404 : decode cX0_run 404 = .ok (.getfield 22, 3) := by decide +kernel
theorem dX0_run_407 : decode cX0_run 407 = .ok (.isub, 1) := by decide +kernel
theorem dX0_run_408 : decode cX0_run 408 = .ok (.iload 4, 2) := by decide +kernel
theorem dX0_run_410 : decode cX0_run 410 = .ok (.invokestatic 33, 3) := by decide +kernel
theorem dX0_run_413 : decode cX0_run 413 = .ok (.iconst 2, 1) := by decide +kernel
theorem dX0_run_414 : decode cX0_run 414 = .ok (.imul, 1) := by decide +kernel
theorem dX0_run_415 : decode cX0_run 415 = .ok (.ireturn, 1) := by decide +kernel
theorem dX0_run_416 : decode cX0_run 416 = .ok (.aload_n 0, 1) := by decide +kernel
theorem dX0_run_417 : decode cX0_run 417 = .ok (.bipush 10, 2) := by decide +kernel
theorem dX0_run_419 : decode cX0_run 419 = .ok (.iload_n 2, 1) := by decide +kernel
theorem dX0_run_420 : decode cX0_run 420 = .ok (.iload 4, 2) := by decide +kernel
theorem dX0_run_422 : decode cX0_run 422 = .ok (.invokestatic 33, 3) := by decide +kernel
theorem dX0_run_425 : decode cX0_run 425 = .ok (.aload_n 0, 1) := by decide +kernel
theorem dX0_run_426 : decode cX0_run 426 = .ok (.getfield 19, 3) := by decide +kernel
theorem dX0_run_429 : decode cX0_run 429 = .ok (.iadd, 1) := by decide +kernel
theorem dX0_run_430 : decode cX0_run 430 = .ok (.ireturn, 1) := by decide +kernel
theorem dX0_run_431 : decode cX0_run 431 = .ok (.aload_n 0, 1) := by decide +kernel
theorem dX0_run_432 : decode cX0_run 432 = .ok (.bipush 13, 2) := by decide +kernel
theorem dX0_run_434 : decode cX0_run 434 = .ok (.iload_n 2, 1) := by decide +kernel
theorem dX0_run_435 : decode cX0_run 435 = .ok (.iload 4, 2) := by decide +kernel
theorem dX0_run_437 : decode cX0_run 437 = .ok (.invokestatic 33, 3) := by decide +kernel
theorem dX0_run_440 : decode cX0_run 440 = .ok (.iconst 3, 1) := by decide +kernel
theorem dX0_run_441 : decode cX0_run 441 = .ok (.imul, 1) := by decide +kernel
theorem dX0_run_442 : decode cX0_run 442 = .ok (.ireturn, 1) := by decide +kernel
theorem dX0_run_443 : decode cX0_run 443 = .ok (.aload_n 0, 1) := by decide +kernel
theorem dX0_run_444 : decode cX0_run 444 = .ok (.bipush 12, 2) := by decide +kernel
theorem dX0_run_446 : decode cX0_run 446 = .ok (.iload_n 2, 1) := by decide +kernel
theorem dX0_run_447 : decode cX0_run 447 = .ok (.iload 4, 2) := by decide +kernel
theorem dX0_run_449 : decode cX0_run 449 = .ok (.invokestatic 33, 3) := by decide +kernel
theorem dX0_run_452 : decode cX0_run 452 = .ok (.aload_n 0, 1) := by decide +kernel
theorem dX0_run_453 : decode cX0_run 453 = .ok (.aload_n 0, 1) := by decide +kernel
theorem dX0_run_454 : decode cX0_run 454 = .ok (.iconst 0, 1) := by decide +kernel
theorem dX0_run_455 : decode cX0_run 455 = .ok (.invokevirtual 29, 3) := by decide +kernel
theorem dX0_run_458 : decode cX0_run 458 = .ok (.aload_n 0, 1) := by decide +kernel
theorem dX0_run_459 : decode cX0_run 459 = .ok (.getfield 19, 3) := by decide +kernel
theorem dX0_run_462 : decode cX0_run 462 = .ok (.iload 4, 2) := by decide +kernel
theorem dX0_run_464 : decode cX0_run 464 = .ok (.invokestatic 33, 3) := by decide +kernel
theorem dX0_run_467 : decode cX0_run 467 = .ok (.iadd, 1) := by decide +kernel
theorem dX0_run_468 : decode cX0_run 468 = .ok (.ireturn, 1) := by decide +kernel
theorem dX0_run_469 : decode cX0_run 469 = .ok (.iconst 0, 1) := by decide +kernel
theorem dX0_run_470 : decode cX0_run 470 = .ok (.ireturn, 1) := by decide +kernel
theorem dX0_partedBy_0 : decode cX0_partedBy 0 = .ok (.iload_n 2, 1) := by decide +kernel
theorem dX0_partedBy_1 : decode cX0_partedBy 1 = .ok (.ifCond .ne 10, 3) := by decide +kernel
theorem dX0_partedBy_4 : decode cX0_partedBy 4 = .ok (.aload_n 0, 1) := by decide +kernel
theorem dX0_partedBy_5 : decode cX0_partedBy 5 = .ok (.iconst 1, 1) := by decide +kernel
theorem dX0_partedBy_6 : decode cX0_partedBy 6 = .ok (.putfield 25, 3) := by decide +kernel
theorem dX0_partedBy_9 : decode cX0_partedBy 9 = .ok (.iconst 0, 1) := by decide +kernel
theorem dX0_partedBy_10 : decode cX0_partedBy 10 = .ok (.ireturn, 1) := by decide +kernel
theorem dX0_partedBy_11 : decode cX0_partedBy 11 = .ok (.iload_n 1, 1) := by decide +kernel
theorem dX0_partedBy_12 : decode cX0_partedBy 12 = .ok (.iload_n 2, 1) := by decide +kernel
theorem dX0_partedBy_13 : decode cX0_partedBy 13 = .ok (.idiv, 1) := by decide +kernel
theorem dX0_partedBy_14 : decode cX0_partedBy 14 = .ok (.ireturn, 1) := by decide +kernel
theorem dX0_note_0 : decode cX0_note 0 = .ok (.aload_n 0, 1) := by decide +kernel
theorem dX0_note_1 : decode cX0_note 1 = .ok (.getfield 52, 3) := by decide +kernel
theorem dX0_note_4 : decode cX0_note 4 = .ok (.bipush 30, 2) := by decide +kernel
theorem dX0_note_6 : decode cX0_note 6 = .ok (.if_icmp .ge 23, 3) := by decide +kernel
theorem dX0_note_9 : decode cX0_note 9 = .ok (.aload_n 0, 1) := by decide +kernel
theorem dX0_note_10 : decode cX0_note 10 = .ok (.getfield 11, 3) := by decide +kernel
theorem dX0_note_13 : decode cX0_note 13 = .ok (.aload_n 0, 1) := by decide +kernel
theorem dX0_note_14 : decode cX0_note 14 = .ok (.getfield 52, 3) := by decide +kernel
theorem dX0_note_17 : decode cX0_note 17 = .ok (.iload_n 1, 1) := by decide +kernel
theorem dX0_note_18 : decode cX0_note 18 = .ok (.iastore, 1) := by decide +kernel
theorem dX0_note_19 : decode cX0_note 19 = .ok (.aload_n 0, 1) := by decide +kernel
theorem dX0_note_20 : decode cX0_note 20 = .ok (.dup, 1) := by decide +kernel
theorem dX0_note_21 : decode cX0_note 21 = .ok (.getfield 52, 3) := by decide +kernel
theorem dX0_note_24 : decode cX0_note 24 = .ok (.iconst 1, 1) := by decide +kernel
theorem dX0_note_25 : decode cX0_note 25 = .ok (.iadd, 1) := by decide +kernel
theorem dX0_note_26 : decode cX0_note 26 = .ok (.putfield 52, 3) := by decide +kernel
theorem dX0_note_29 : decode cX0_note 29 = .ok (.return_, 1) := by decide +kernel
theorem dX1_init_0 : decode cX1_init 0 = .ok (.aload_n 0, 1) := by decide +kernel
theorem dX1_init_1 : decode cX1_init 1 = .ok (.invokespecial 3, 3) := by decide +kernel
theorem dX1_init_4 : decode cX1_init 4 = .ok (.aload_n 0, 1) := by decide +kernel
theorem dX1_init_5 : decode cX1_init 5 = .ok (.bipush 40, 2) := by decide +kernel
theorem dX1_init_7 : decode cX1_init 7 = .ok (.newarray .int, 2) := by decide +kernel
theorem dX1_init_9 : decode cX1_init 9 = .ok (.putfield 9, 3) := by decide +kernel
theorem dX1_init_12 : decode cX1_init 12 = .ok (.aload_n 0, 1) := by decide +kernel
theorem dX1_init_13 : decode cX1_init 13 = .ok (.iconst (-1), 1) := by decide +kernel
theorem dX1_init_14 : decode cX1_init 14 = .ok (.putfield 15, 3) := by decide +kernel
theorem dX1_init_17 : decode cX1_init 17 = .ok (.return_, 1) := by decide +kernel
theorem dX1_isMissing_0 : decode cX1_isMissing 0 = .ok (.aload_n 0, 1) := by decide +kernel
theorem dX1_isMissing_1 : decode cX1_isMissing 1 = .ok (.getfield 15, 3) := by decide +kernel
theorem dX1_isMissing_4 : decode cX1_isMissing 4 = .ok (.iconst (-1), 1) := by decide +kernel
theorem dX1_isMissing_5 : decode cX1_isMissing 5 = .ok (.if_icmp .ne 7, 3) := by decide +kernel
theorem dX1_isMissing_8 : decode cX1_isMissing 8 = .ok (.iconst 1, 1) := by decide +kernel
theorem dX1_isMissing_9 : decode cX1_isMissing 9 = .ok (.goto 4, 3) := by decide +kernel
theorem dX1_isMissing_12 : decode cX1_isMissing 12 = .ok (.iconst 0, 1) := by decide +kernel
theorem dX1_isMissing_13 : decode cX1_isMissing 13 = .ok (.ireturn, 1) := by decide +kernel
theorem dX1_hasItem_0 : decode cX1_hasItem 0 = .ok (.iload_n 1, 1) := by decide +kernel
theorem dX1_hasItem_1 : decode cX1_hasItem 1 = .ok (.iconst 0, 1) := by decide +kernel
theorem dX1_hasItem_2 : decode cX1_hasItem 2 = .ok (.aload_n 0, 1) := by decide +kernel
theorem dX1_hasItem_3 : decode cX1_hasItem 3 = .ok (.getfield 19, 3) := by decide +kernel
theorem dX1_hasItem_6 : decode cX1_hasItem 6 = .ok (.iconst 1, 1) := by decide +kernel
theorem dX1_hasItem_7 : decode cX1_hasItem 7 = .ok (.isub, 1) := by decide +kernel
theorem dX1_hasItem_8 : decode cX1_hasItem 8 = .ok (.invokestatic 22, 3) := by decide +kernel
theorem dX1_hasItem_11 : decode cX1_hasItem 11 = .ok (.ireturn, 1) := by decide +kernel
theorem dX1_becomeRow_0 : decode cX1_becomeRow 0 = .ok (.aload_n 0, 1) := by decide +kernel
theorem dX1_becomeRow_1 : decode cX1_becomeRow 1 = .ok (.getfield 9, 3) := by decide +kernel
theorem dX1_becomeRow_4 : decode cX1_becomeRow 4 = .ok (.iconst 0, 1) := by decide +kernel
theorem dX1_becomeRow_5 : decode cX1_becomeRow 5 = .ok (.invokestatic 26, 3) := by decide +kernel
theorem dX1_becomeRow_8 : decode cX1_becomeRow 8 = .ok (.aload_n 0, 1) := by decide +kernel
theorem dX1_becomeRow_9 : decode cX1_becomeRow 9 = .ok (.iload_n 1, 1) := by decide +kernel
theorem dX1_becomeRow_10 : decode cX1_becomeRow 10 = .ok (.putfield 15, 3) := by decide +kernel
theorem dX1_becomeRow_13 : decode cX1_becomeRow 13 = .ok (.aload_n 0, 1) := by decide +kernel
theorem dX1_becomeRow_14 : decode cX1_becomeRow 14 = .ok (.iload_n 2, 1) := by decide +kernel
theorem dX1_becomeRow_15 : decode cX1_becomeRow 15 = .ok (.putfield 19, 3) := by decide +kernel
theorem dX1_becomeRow_18 : decode cX1_becomeRow 18 = .ok (.return_, 1) := by decide +kernel
theorem dX1_narrowed_0 : decode cX1_narrowed 0 = .ok (.aload_n 0, 1) := by decide +kernel
theorem dX1_narrowed_1 : decode cX1_narrowed 1 = .ok (.getfield 15, 3) := by decide +kernel
theorem dX1_narrowed_4 : decode cX1_narrowed 4 = .ok (.lookupswitch 34 #[(0, 28), (1, 31)], 28) := by decide +kernel
theorem dX1_narrowed_32 : decode cX1_narrowed 32 = .ok (.iload_n 1, 1) := by decide +kernel
theorem dX1_narrowed_33 : decode cX1_narrowed 33 = .ok (.i2b, 1) := by decide +kernel
theorem dX1_narrowed_34 : decode cX1_narrowed 34 = .ok (.ireturn, 1) := by decide +kernel
theorem dX1_narrowed_35 : decode cX1_narrowed 35 = .ok (.iload_n 1, 1) := by decide +kernel
theorem dX1_narrowed_36 : decode cX1_narrowed 36 = .ok (.i2s, 1) := by decide +kernel
theorem dX1_narrowed_37 : decode cX1_narrowed 37 = .ok (.ireturn, 1) := by decide +kernel
theorem dX1_narrowed_38 : decode cX1_narrowed 38 = .ok (.iload_n 1, 1) := by decide +kernel
theorem dX1_narrowed_39 : decode cX1_narrowed 39 = .ok (.ireturn, 1) := by decide +kernel
theorem dX2_init_0 : decode cX2_init 0 = .ok (.aload_n 0, 1) := by decide +kernel
theorem dX2_init_1 : decode cX2_init 1 = .ok (.invokespecial 3, 3) := by decide +kernel
theorem dX2_init_4 : decode cX2_init 4 = .ok (.aload_n 0, 1) := by decide +kernel
theorem dX2_init_5 : decode cX2_init 5 = .ok (.iconst 2, 1) := by decide +kernel
theorem dX2_init_6 : decode cX2_init 6 = .ok (.putfield 9, 3) := by decide +kernel
theorem dX2_init_9 : decode cX2_init 9 = .ok (.return_, 1) := by decide +kernel
theorem dX2_holdAir_0 : decode cX2_holdAir 0 = .ok (.aload_n 0, 1) := by decide +kernel
theorem dX2_holdAir_1 : decode cX2_holdAir 1 = .ok (.iconst 0, 1) := by decide +kernel
theorem dX2_holdAir_2 : decode cX2_holdAir 2 = .ok (.putfield 9, 3) := by decide +kernel
theorem dX2_holdAir_5 : decode cX2_holdAir 5 = .ok (.aload_n 0, 1) := by decide +kernel
theorem dX2_holdAir_6 : decode cX2_holdAir 6 = .ok (.iload_n 1, 1) := by decide +kernel
theorem dX2_holdAir_7 : decode cX2_holdAir 7 = .ok (.putfield 15, 3) := by decide +kernel
theorem dX2_holdAir_10 : decode cX2_holdAir 10 = .ok (.return_, 1) := by decide +kernel
theorem dX2_holdRow_0 : decode cX2_holdRow 0 = .ok (.aload_n 0, 1) := by decide +kernel
theorem dX2_holdRow_1 : decode cX2_holdRow 1 = .ok (.aload_n 1, 1) := by decide +kernel
theorem dX2_holdRow_2 : decode cX2_holdRow 2 = .ok (.invokevirtual 18, 3) := by decide +kernel
theorem dX2_holdRow_5 : decode cX2_holdRow 5 = .ok (.ifCond .eq 7, 3) := by decide +kernel
theorem dX2_holdRow_8 : decode cX2_holdRow 8 = .ok (.iconst 2, 1) := by decide +kernel
theorem dX2_holdRow_9 : decode cX2_holdRow 9 = .ok (.goto 4, 3) := by decide +kernel
theorem dX2_holdRow_12 : decode cX2_holdRow 12 = .ok (.iconst 1, 1) := by decide +kernel
theorem dX2_holdRow_13 : decode cX2_holdRow 13 = .ok (.putfield 9, 3) := by decide +kernel
theorem dX2_holdRow_16 : decode cX2_holdRow 16 = .ok (.aload_n 0, 1) := by decide +kernel
theorem dX2_holdRow_17 : decode cX2_holdRow 17 = .ok (.aload_n 1, 1) := by decide +kernel
theorem dX2_holdRow_18 : decode cX2_holdRow 18 = .ok (.getfield 24, 3) := by decide +kernel
theorem dX2_holdRow_21 : decode cX2_holdRow 21 = .ok (.putfield 27, 3) := by decide +kernel
theorem dX2_holdRow_24 : decode cX2_holdRow 24 = .ok (.aload_n 0, 1) := by decide +kernel
theorem dX2_holdRow_25 : decode cX2_holdRow 25 = .ok (.aload_n 1, 1) := by decide +kernel
theorem dX2_holdRow_26 : decode cX2_holdRow 26 = .ok (.getfield 28, 3) := by decide +kernel
theorem dX2_holdRow_29 : decode cX2_holdRow 29 = .ok (.putfield 31, 3) := by decide +kernel
theorem dX2_holdRow_32 : decode cX2_holdRow 32 = .ok (.return_, 1) := by decide +kernel
theorem dX3_init_0 : decode cX3_init 0 = .ok (.aload_n 0, 1) := by decide +kernel
theorem dX3_init_1 : decode cX3_init 1 = .ok (.invokespecial 3, 3) := by decide +kernel
theorem dX3_init_4 : decode cX3_init 4 = .ok (.aload_n 0, 1) := by decide +kernel
theorem dX3_init_5 : decode cX3_init 5 = .ok (.sipush 200, 3) := by decide +kernel
theorem dX3_init_8 : decode cX3_init 8 = .ok (.newarray .int, 2) := by decide +kernel
theorem dX3_init_10 : decode cX3_init 10 = .ok (.putfield 11, 3) := by decide +kernel
theorem dX3_init_13 : decode cX3_init 13 = .ok (.return_, 1) := by decide +kernel
theorem dX3_takeBytes_0 : decode cX3_takeBytes 0 = .ok (.iload_n 3, 1) := by decide +kernel
theorem dX3_takeBytes_1 : decode cX3_takeBytes 1 = .ok (.sipush 200, 3) := by decide +kernel
theorem dX3_takeBytes_4 : decode cX3_takeBytes 4 = .ok (.aload_n 0, 1) := by decide +kernel
theorem dX3_takeBytes_5 : decode cX3_takeBytes 5 = .ok (.getfield 15, 3) := by decide +kernel
theorem dX3_takeBytes_8 : decode cX3_takeBytes 8 = .ok (.isub, 1) := by decide +kernel
theorem dX3_takeBytes_9 : decode cX3_takeBytes 9 = .ok (.if_icmp .le 5, 3) := by decide +kernel
theorem dX3_takeBytes_12 : decode cX3_takeBytes 12 = .ok (.iconst 0, 1) := by decide +kernel
theorem dX3_takeBytes_13 : decode cX3_takeBytes 13 = .ok (.ireturn, 1) := by decide +kernel
theorem dX3_takeBytes_14 : decode cX3_takeBytes 14 = .ok (.iconst 0, 1) := by decide +kernel
theorem dX3_takeBytes_15 : decode cX3_takeBytes 15 = .ok (.istore 4, 2) := by decide +kernel
theorem dX3_takeBytes_17 : decode cX3_takeBytes 17 = .ok (.iload 4, 2) := by decide +kernel
theorem dX3_takeBytes_19 : decode cX3_takeBytes 19 = .ok (.iload_n 3, 1) := by decide +kernel
theorem dX3_takeBytes_20 : decode cX3_takeBytes 20 = .ok (.if_icmp .ge 33, 3) := by decide +kernel
theorem dX3_takeBytes_23 : decode cX3_takeBytes 23 = .ok (.aload_n 0, 1) := by decide +kernel
theorem dX3_takeBytes_24 : decode cX3_takeBytes 24 = .ok (.getfield 11, 3) := by decide +kernel
theorem dX3_takeBytes_27 : decode cX3_takeBytes 27 = .ok (.aload_n 0, 1) := by decide +kernel
theorem dX3_takeBytes_28 : decode cX3_takeBytes 28 = .ok (.getfield 15, 3) := by decide +kernel
theorem dX3_takeBytes_31 : decode cX3_takeBytes 31 = .ok (.iload 4, 2) := by decide +kernel
theorem dX3_takeBytes_33 : decode cX3_takeBytes 33 = .ok (.iadd, 1) := by decide +kernel
theorem dX3_takeBytes_34 : decode cX3_takeBytes 34 = .ok (.lload_n 1, 1) := by decide +kernel
theorem dX3_takeBytes_35 : decode cX3_takeBytes 35 = .ok (.bipush 8, 2) := by decide +kernel
theorem dX3_takeBytes_37 : decode cX3_takeBytes 37 = .ok (.iload 4, 2) := by decide +kernel
theorem dX3_takeBytes_39 : decode cX3_takeBytes 39 = .ok (.imul, 1) := by decide +kernel
theorem dX3_takeBytes_40 : decode cX3_takeBytes 40 = .ok (.lushr, 1) := by decide +kernel
theorem dX3_takeBytes_41 : decode cX3_takeBytes 41 = .ok (.l2i, 1) := by decide +kernel
theorem dX3_takeBytes_42 : decode cX3_takeBytes 42 = .ok (.sipush 255, 3) := by decide +kernel
theorem dX3_takeBytes_45 : decode cX3_takeBytes 45 = .ok (.iand, 1) := by decide +kernel
theorem dX3_takeBytes_46 : decode cX3_takeBytes 46 = .ok (.iastore, 1) := by decide +kernel
theorem dX3_takeBytes_47 : decode cX3_takeBytes 47 = .ok (.iinc 4 1, 3) := by decide +kernel
theorem dX3_takeBytes_50 : decode cX3_takeBytes 50 = .ok (.goto (-33), 3) := by decide +kernel
theorem dX3_takeBytes_53 : decode cX3_takeBytes 53 = .ok (.aload_n 0, 1) := by decide +kernel
theorem dX3_takeBytes_54 : decode cX3_takeBytes 54 = .ok (.dup, 1) := by decide +kernel
theorem dX3_takeBytes_55 : decode cX3_takeBytes 55 = .ok (.getfield 15, 3) := by decide +kernel
theorem dX3_takeBytes_58 : decode cX3_takeBytes 58 = .ok (.iload_n 3, 1) := by decide +kernel
theorem dX3_takeBytes_59 : decode cX3_takeBytes 59 = .ok (.iadd, 1) := by decide +kernel
theorem dX3_takeBytes_60 : decode cX3_takeBytes 60 = .ok (.putfield 15, 3) := by decide +kernel
theorem dX3_takeBytes_63 : decode cX3_takeBytes 63 = .ok (.iconst 1, 1) := by decide +kernel
theorem dX3_takeBytes_64 : decode cX3_takeBytes 64 = .ok (.ireturn, 1) := by decide +kernel
theorem dX3_tell_0 : decode cX3_tell 0 = .ok (.aload_n 0, 1) := by decide +kernel
theorem dX3_tell_1 : decode cX3_tell 1 = .ok (.iconst 0, 1) := by decide +kernel
theorem dX3_tell_2 : decode cX3_tell 2 = .ok (.putfield 19, 3) := by decide +kernel
theorem dX3_tell_5 : decode cX3_tell 5 = .ok (.aload_n 0, 1) := by decide +kernel
theorem dX3_tell_6 : decode cX3_tell 6 = .ok (.iconst (-1), 1) := by decide +kernel
theorem dX3_tell_7 : decode cX3_tell 7 = .ok (.putfield 22, 3) := by decide +kernel
theorem dX3_tell_10 : decode cX3_tell 10 = .ok (.aload_n 0, 1) := by decide +kernel
theorem dX3_tell_11 : decode cX3_tell 11 = .ok (.invokevirtual 25, 3) := by decide +kernel
theorem dX3_tell_14 : decode cX3_tell 14 = .ok (.iconst 0, 1) := by decide +kernel
theorem dX3_tell_15 : decode cX3_tell 15 = .ok (.istore_n 2, 1) := by decide +kernel
theorem dX3_tell_16 : decode cX3_tell 16 = .ok (.iload_n 2, 1) := by decide +kernel
theorem dX3_tell_17 : decode cX3_tell 17 = .ok (.sipush 200, 3) := by decide +kernel
theorem dX3_tell_20 : decode cX3_tell 20 = .ok (.if_icmp .ge 36, 3) := by decide +kernel
theorem dX3_tell_23 : decode cX3_tell 23 = .ok (.aload_n 0, 1) := by decide +kernel
theorem dX3_tell_24 : decode cX3_tell 24 = .ok (.getfield 19, 3) := by decide +kernel
theorem dX3_tell_27 : decode cX3_tell 27 = .ok (.aload_n 0, 1) := by decide +kernel
theorem dX3_tell_28 : decode cX3_tell 28 = .ok (.getfield 15, 3) := by decide +kernel
theorem dX3_tell_31 : decode cX3_tell 31 = .ok (.if_icmp .ge 25, 3) := by decide +kernel
theorem dX3_tell_34 : decode cX3_tell 34 = .ok (.aload_n 0, 1) := by decide +kernel
theorem dX3_tell_35 : decode cX3_tell 35 = .ok (.getfield 22, 3) := by decide +kernel
theorem dX3_tell_38 : decode cX3_tell 38 = .ok (.ifCond .ge 18, 3) := by decide +kernel
theorem dX3_tell_41 : decode cX3_tell 41 = .ok (.aload_n 0, 1) := by decide +kernel
theorem dX3_tell_42 : decode cX3_tell 42 = .ok (.aload_n 1, 1) := by decide +kernel
theorem dX3_tell_43 : decode cX3_tell 43 = .ok (.invokevirtual 28, 3) := by decide +kernel
theorem dX3_tell_46 : decode cX3_tell 46 = .ok (.aload_n 0, 1) := by decide +kernel
theorem dX3_tell_47 : decode cX3_tell 47 = .ok (.invokevirtual 25, 3) := by decide +kernel
theorem dX3_tell_50 : decode cX3_tell 50 = .ok (.iinc 2 1, 3) := by decide +kernel
theorem dX3_tell_53 : decode cX3_tell 53 = .ok (.goto (-37), 3) := by decide +kernel
theorem dX3_tell_56 : decode cX3_tell 56 = .ok (.aload_n 0, 1) := by decide +kernel
theorem dX3_tell_57 : decode cX3_tell 57 = .ok (.getfield 22, 3) := by decide +kernel
theorem dX3_tell_60 : decode cX3_tell 60 = .ok (.ireturn, 1) := by decide +kernel
theorem dX3_tellOne_0 : decode cX3_tellOne 0 = .ok (.aload_n 0, 1) := by decide +kernel
theorem dX3_tellOne_1 : decode cX3_tellOne 1 = .ok (.invokevirtual 32, 3) := by decide +kernel
theorem dX3_tellOne_4 : decode cX3_tellOne 4 = .ok (.istore_n 2, 1) := by decide +kernel
theorem dX3_tellOne_5 : decode cX3_tellOne 5 = .ok (.iload_n 2, 1) := by decide +kernel
theorem dX3_tellOne_6 : decode cX3_tellOne 6 = .ok (.ifCond .lt 12, 3) := by decide +kernel
theorem dX3_tellOne_9 : decode cX3_tellOne 9 = .ok (.aload_n 0, 1) := by decide +kernel
theorem dX3_tellOne_10 : decode cX3_tellOne 10 = .ok (.aload_n 1, 1) := by decide +kernel
theorem dX3_tellOne_11 : decode cX3_tellOne 11 = .ok (.iload_n 2, 1) := by decide +kernel
theorem dX3_tellOne_12 : decode cX3_tellOne 12 = .ok (.invokevirtual 36, 3) := by decide +kernel
theorem dX3_tellOne_15 : decode cX3_tellOne 15 = .ok (.goto 118, 3) := by decide +kernel
theorem dX3_tellOne_18 : decode cX3_tellOne 18 = .ok (.aload_n 0, 1) := by decide +kernel
theorem dX3_tellOne_19 : decode cX3_tellOne 19 = .ok (.ldc 40, 2) := by decide +kernel
theorem dX3_tellOne_21 : decode cX3_tellOne 21 = .ok (.invokevirtual 42, 3) := by decide +kernel
theorem dX3_tellOne_24 : decode cX3_tellOne 24 = .ok (.ifCond .eq 11, 3) := by decide +kernel
theorem dX3_tellOne_27 : decode cX3_tellOne 27 = .ok (.aload_n 0, 1) := by decide +kernel
theorem dX3_tellOne_28 : decode cX3_tellOne 28 = .ok (.aload_n 1, 1) := by decide +kernel
theorem dX3_tellOne_29 : decode cX3_tellOne 29 = .ok (.invokevirtual 46, 3) := by decide +kernel
theorem dX3_tellOne_32 : decode cX3_tellOne 32 = .ok (.goto 101, 3) := by decide +kernel
theorem dX3_tellOne_35 : decode cX3_tellOne 35 = .ok (.aload_n 0, 1) := by decide +kernel
theorem dX3_tellOne_36 : decode cX3_tellOne 36 = .ok (.ldc 49, 2) := by decide +kernel
theorem dX3_tellOne_38 : decode cX3_tellOne 38 = .ok (.invokevirtual 42, 3) := by decide +kernel
theorem dX3_tellOne_41 : decode cX3_tellOne 41 = .ok (.ifCond .eq 16, 3) := by decide +kernel
theorem dX3_tellOne_44 : decode cX3_tellOne 44 = .ok (.aload_n 1, 1) := by decide +kernel
theorem dX3_tellOne_45 : decode cX3_tellOne 45 = .ok (.aload_n 0, 1) := by decide +kernel
theorem dX3_tellOne_46 : decode cX3_tellOne 46 = .ok (.iconst 0, 1) := by decide +kernel
theorem dX3_tellOne_47 : decode cX3_tellOne 47 = .ok (.iconst 3, 1) := by decide +kernel
theorem dX3_tellOne_48 : decode cX3_tellOne 48 = .ok (.invokevirtual 51, 3) := by decide +kernel
theorem dX3_tellOne_51 : decode cX3_tellOne 51 = .ok (.putfield 55, 3) := by decide +kernel
theorem dX3_tellOne_54 : decode cX3_tellOne 54 = .ok (.goto 79, 3) := by decide +kernel
theorem dX3_tellOne_57 : decode cX3_tellOne 57 = .ok (.aload_n 0, 1) := by decide +kernel
theorem dX3_tellOne_58 : decode cX3_tellOne 58 = .ok (.ldc 59, 2) := by decide +kernel
theorem dX3_tellOne_60 : decode cX3_tellOne 60 = .ok (.invokevirtual 42, 3) := by decide +kernel
theorem dX3_tellOne_63 : decode cX3_tellOne 63 = .ok (.ifCond .eq 12, 3) := by decide +kernel
theorem dX3_tellOne_66 : decode cX3_tellOne 66 = .ok (.aload_n 0, 1) := by decide +kernel
theorem dX3_tellOne_67 : decode cX3_tellOne 67 = .ok (.aload_n 1, 1) := by decide +kernel
theorem dX3_tellOne_68 : decode cX3_tellOne 68 = .ok (.iconst 0, 1) := by decide +kernel
theorem dX3_tellOne_69 : decode cX3_tellOne 69 = .ok (.invokevirtual 61, 3) := by decide +kernel
theorem dX3_tellOne_72 : decode cX3_tellOne 72 = .ok (.goto 61, 3) := by decide +kernel
theorem dX3_tellOne_75 : decode cX3_tellOne 75 = .ok (.aload_n 0, 1) := by decide +kernel
theorem dX3_tellOne_76 : decode cX3_tellOne 76 = .ok (.ldc 64, 2) := by decide +kernel
theorem dX3_tellOne_78 : decode cX3_tellOne 78 = .ok (.invokevirtual 42, 3) := by decide +kernel
theorem dX3_tellOne_81 : decode cX3_tellOne 81 = .ok (.ifCond .eq 12, 3) := by decide +kernel
theorem dX3_tellOne_84 : decode cX3_tellOne 84 = .ok (.aload_n 0, 1) := by decide +kernel
theorem dX3_tellOne_85 : decode cX3_tellOne 85 = .ok (.aload_n 1, 1) := by decide +kernel
theorem dX3_tellOne_86 : decode cX3_tellOne 86 = .ok (.iconst 1, 1) := by decide +kernel
theorem dX3_tellOne_87 : decode cX3_tellOne 87 = .ok (.invokevirtual 61, 3) := by decide +kernel
theorem dX3_tellOne_90 : decode cX3_tellOne 90 = .ok (.goto 43, 3) := by decide +kernel
theorem dX3_tellOne_93 : decode cX3_tellOne 93 = .ok (.aload_n 0, 1) := by decide +kernel
theorem dX3_tellOne_94 : decode cX3_tellOne 94 = .ok (.ldc 66, 2) := by decide +kernel
theorem dX3_tellOne_96 : decode cX3_tellOne 96 = .ok (.invokevirtual 42, 3) := by decide +kernel
theorem dX3_tellOne_99 : decode cX3_tellOne 99 = .ok (.ifCond .eq 12, 3) := by decide +kernel
theorem dX3_tellOne_102 : decode cX3_tellOne 102 = .ok (.aload_n 0, 1) := by decide +kernel
theorem dX3_tellOne_103 : decode cX3_tellOne 103 = .ok (.aload_n 1, 1) := by decide +kernel
theorem dX3_tellOne_104 : decode cX3_tellOne 104 = .ok (.iconst 2, 1) := by decide +kernel
theorem dX3_tellOne_105 : decode cX3_tellOne 105 = .ok (.invokevirtual 61, 3) := by decide +kernel
theorem dX3_tellOne_108 : decode cX3_tellOne 108 = .ok (.goto 25, 3) := by decide +kernel
theorem dX3_tellOne_111 : decode cX3_tellOne 111 = .ok (.aload_n 0, 1) := by decide +kernel
theorem dX3_tellOne_112 : decode cX3_tellOne 112 = .ok (.ldc 68, 2) := by decide +kernel
theorem dX3_tellOne_114 : decode cX3_tellOne 114 = .ok (.invokevirtual 42, 3) := by decide +kernel
theorem dX3_tellOne_117 : decode cX3_tellOne 117 = .ok (.ifCond .eq 12, 3) := by decide +kernel
theorem dX3_tellOne_120 : decode cX3_tellOne 120 = .ok (.aload_n 0, 1) := by decide +kernel
theorem dX3_tellOne_121 : decode cX3_tellOne 121 = .ok (.aload_n 1, 1) := by decide +kernel
theorem dX3_tellOne_122 : decode cX3_tellOne 122 = .ok (.iconst 3, 1) := by decide +kernel
theorem dX3_tellOne_123 : decode cX3_tellOne 123 = .ok (.invokevirtual 61, 3) := by decide +kernel
theorem dX3_tellOne_126 : decode cX3_tellOne 126 = .ok (.goto 7, 3) := by decide +kernel
theorem dX3_tellOne_129 : decode cX3_tellOne 129 = .ok (.aload_n 0, 1) := by decide +kernel
theorem dX3_tellOne_130 : decode cX3_tellOne 130 = .ok (.invokevirtual 70, 3) := by decide +kernel
theorem dX3_tellOne_133 : decode cX3_tellOne 133 = .ok (.aload_n 0, 1) := by decide +kernel
theorem dX3_tellOne_134 : decode cX3_tellOne 134 = .ok (.invokevirtual 73, 3) := by decide +kernel
theorem dX3_tellOne_137 : decode cX3_tellOne 137 = .ok (.return_, 1) := by decide +kernel
theorem dX3_kindHere_0 : decode cX3_kindHere 0 = .ok (.aload_n 0, 1) := by decide +kernel
theorem dX3_kindHere_1 : decode cX3_kindHere 1 = .ok (.ldc 76, 2) := by decide +kernel
theorem dX3_kindHere_3 : decode cX3_kindHere 3 = .ok (.invokevirtual 78, 3) := by decide +kernel
theorem dX3_kindHere_6 : decode cX3_kindHere 6 = .ok (.ifCond .eq 5, 3) := by decide +kernel
theorem dX3_kindHere_9 : decode cX3_kindHere 9 = .ok (.iconst 0, 1) := by decide +kernel
theorem dX3_kindHere_10 : decode cX3_kindHere 10 = .ok (.ireturn, 1) := by decide +kernel
theorem dX3_kindHere_11 : decode cX3_kindHere 11 = .ok (.aload_n 0, 1) := by decide +kernel
theorem dX3_kindHere_12 : decode cX3_kindHere 12 = .ok (.ldc 81, 2) := by decide +kernel
theorem dX3_kindHere_14 : decode cX3_kindHere 14 = .ok (.invokevirtual 78, 3) := by decide +kernel
theorem dX3_kindHere_17 : decode cX3_kindHere 17 = .ok (.ifCond .eq 5, 3) := by decide +kernel
theorem dX3_kindHere_20 : decode cX3_kindHere 20 = .ok (.iconst 1, 1) := by decide +kernel
theorem dX3_kindHere_21 : decode cX3_kindHere 21 = .ok (.ireturn, 1) := by decide +kernel
theorem dX3_kindHere_22 : decode cX3_kindHere 22 = .ok (.aload_n 0, 1) := by decide +kernel
theorem dX3_kindHere_23 : decode cX3_kindHere 23 = .ok (.ldc 83, 2) := by decide +kernel
theorem dX3_kindHere_25 : decode cX3_kindHere 25 = .ok (.invokevirtual 78, 3) := by decide +kernel
theorem dX3_kindHere_28 : decode cX3_kindHere 28 = .ok (.ifCond .eq 5, 3) := by decide +kernel
theorem dX3_kindHere_31 : decode cX3_kindHere 31 = .ok (.iconst 2, 1) := by decide +kernel
theorem dX3_kindHere_32 : decode cX3_kindHere 32 = .ok (.ireturn, 1) := by decide +kernel
theorem dX3_kindHere_33 : decode cX3_kindHere 33 = .ok (.aload_n 0, 1) := by decide +kernel
theorem dX3_kindHere_34 : decode cX3_kindHere 34 = .ok (.ldc 85, 2) := by decide +kernel
theorem dX3_kindHere_36 : decode cX3_kindHere 36 = .ok (.invokevirtual 78, 3) := by decide +kernel
theorem dX3_kindHere_39 : decode cX3_kindHere 39 = .ok (.ifCond .eq 5, 3) := by decide +kernel
theorem dX3_kindHere_42 : decode cX3_kindHere 42 = .ok (.iconst 3, 1) := by decide +kernel
theorem dX3_kindHere_43 : decode cX3_kindHere 43 = .ok (.ireturn, 1) := by decide +kernel
theorem dX3_kindHere_44 : decode cX3_kindHere 44 = .ok (.aload_n 0, 1) := by decide +kernel
theorem dX3_kindHere_45 : decode cX3_kindHere 45 = .ok (.ldc 87, 2) := by decide +kernel
theorem dX3_kindHere_47 : decode cX3_kindHere 47 = .ok (.invokevirtual 78, 3) := by decide +kernel
theorem dX3_kindHere_50 : decode cX3_kindHere 50 = .ok (.ifCond .eq 5, 3) := by decide +kernel
theorem dX3_kindHere_53 : decode cX3_kindHere 53 = .ok (.iconst 4, 1) := by decide +kernel
theorem dX3_kindHere_54 : decode cX3_kindHere 54 = .ok (.ireturn, 1) := by decide +kernel
theorem dX3_kindHere_55 : decode cX3_kindHere 55 = .ok (.aload_n 0, 1) := by decide +kernel
theorem dX3_kindHere_56 : decode cX3_kindHere 56 = .ok (.ldc 89, 2) := by decide +kernel
theorem dX3_kindHere_58 : decode cX3_kindHere 58 = .ok (.invokevirtual 78, 3) := by decide +kernel
theorem dX3_kindHere_61 : decode cX3_kindHere 61 = .ok (.ifCond .eq 7, 3) := by decide +kernel
theorem dX3_kindHere_64 : decode cX3_kindHere 64 = .ok (.iconst 5, 1) := by decide +kernel
theorem dX3_kindHere_65 : decode cX3_kindHere 65 = .ok (.goto 4, 3) := by decide +kernel
theorem dX3_kindHere_68 : decode cX3_kindHere 68 = .ok (.iconst (-1), 1) := by decide +kernel
theorem dX3_kindHere_69 : decode cX3_kindHere 69 = .ok (.ireturn, 1) := by decide +kernel
theorem dX3_tellAir_0 : decode cX3_tellAir 0 = .ok (.aload_n 1, 1) := by decide +kernel
theorem dX3_tellAir_1 : decode cX3_tellAir 1 = .ok (.getfield 91, 3) := by decide +kernel
theorem dX3_tellAir_4 : decode cX3_tellAir 4 = .ok (.bipush 8, 2) := by decide +kernel
theorem dX3_tellAir_6 : decode cX3_tellAir 6 = .ok (.if_icmp .lt 8, 3) := by decide +kernel
theorem dX3_tellAir_9 : decode cX3_tellAir 9 = .ok (.aload_n 0, 1) := by decide +kernel
theorem dX3_tellAir_10 : decode cX3_tellAir 10 = .ok (.invokevirtual 70, 3) := by decide +kernel
theorem dX3_tellAir_13 : decode cX3_tellAir 13 = .ok (.return_, 1) := by decide +kernel
theorem dX3_tellAir_14 : decode cX3_tellAir 14 = .ok (.aload_n 0, 1) := by decide +kernel
theorem dX3_tellAir_15 : decode cX3_tellAir 15 = .ok (.aload_n 0, 1) := by decide +kernel
theorem dX3_tellAir_16 : decode cX3_tellAir 16 = .ok (.invokevirtual 94, 3) := by decide +kernel
theorem dX3_tellAir_19 : decode cX3_tellAir 19 = .ok (.putfield 19, 3) := by decide +kernel
theorem dX3_tellAir_22 : decode cX3_tellAir 22 = .ok (.aload_n 0, 1) := by decide +kernel
theorem dX3_tellAir_23 : decode cX3_tellAir 23 = .ok (.ldc 97, 2) := by decide +kernel
theorem dX3_tellAir_25 : decode cX3_tellAir 25 = .ok (.invokevirtual 99, 3) := by decide +kernel
theorem dX3_tellAir_28 : decode cX3_tellAir 28 = .ok (.aload_n 0, 1) := by decide +kernel
theorem dX3_tellAir_29 : decode cX3_tellAir 29 = .ok (.iconst 0, 1) := by decide +kernel
theorem dX3_tellAir_30 : decode cX3_tellAir 30 = .ok (.bipush 15, 2) := by decide +kernel
theorem dX3_tellAir_32 : decode cX3_tellAir 32 = .ok (.invokevirtual 51, 3) := by decide +kernel
theorem dX3_tellAir_35 : decode cX3_tellAir 35 = .ok (.istore_n 3, 1) := by decide +kernel
theorem dX3_tellAir_36 : decode cX3_tellAir 36 = .ok (.aload_n 0, 1) := by decide +kernel
theorem dX3_tellAir_37 : decode cX3_tellAir 37 = .ok (.ldc 103, 2) := by decide +kernel
theorem dX3_tellAir_39 : decode cX3_tellAir 39 = .ok (.invokevirtual 42, 3) := by decide +kernel
theorem dX3_tellAir_42 : decode cX3_tellAir 42 = .ok (.ifCond .eq 13, 3) := by decide +kernel
theorem dX3_tellAir_45 : decode cX3_tellAir 45 = .ok (.aload_n 0, 1) := by decide +kernel
theorem dX3_tellAir_46 : decode cX3_tellAir 46 = .ok (.iconst 0, 1) := by decide +kernel
theorem dX3_tellAir_47 : decode cX3_tellAir 47 = .ok (.bipush 9, 2) := by decide +kernel
theorem dX3_tellAir_49 : decode cX3_tellAir 49 = .ok (.invokevirtual 51, 3) := by decide +kernel
theorem dX3_tellAir_52 : decode cX3_tellAir 52 = .ok (.goto 4, 3) := by decide +kernel
theorem dX3_tellAir_55 : decode cX3_tellAir 55 = .ok (.iconst 3, 1) := by decide +kernel
theorem dX3_tellAir_56 : decode cX3_tellAir 56 = .ok (.istore 4, 2) := by decide +kernel
theorem dX3_tellAir_58 : decode cX3_tellAir 58 = .ok (.aload_n 0, 1) := by decide +kernel
theorem dX3_tellAir_59 : decode cX3_tellAir 59 = .ok (.ldc 105, 2) := by decide +kernel
theorem dX3_tellAir_61 : decode cX3_tellAir 61 = .ok (.invokevirtual 42, 3) := by decide +kernel
theorem dX3_tellAir_64 : decode cX3_tellAir 64 = .ok (.ifCond .eq 13, 3) := by decide +kernel
theorem dX3_tellAir_67 : decode cX3_tellAir 67 = .ok (.aload_n 0, 1) := by decide +kernel
theorem dX3_tellAir_68 : decode cX3_tellAir 68 = .ok (.iconst 0, 1) := by decide +kernel
theorem dX3_tellAir_69 : decode cX3_tellAir 69 = .ok (.bipush 15, 2) := by decide +kernel
theorem dX3_tellAir_71 : decode cX3_tellAir 71 = .ok (.invokevirtual 51, 3) := by decide +kernel
theorem dX3_tellAir_74 : decode cX3_tellAir 74 = .ok (.goto 4, 3) := by decide +kernel
theorem dX3_tellAir_77 : decode cX3_tellAir 77 = .ok (.iconst 0, 1) := by decide +kernel
theorem dX3_tellAir_78 : decode cX3_tellAir 78 = .ok (.istore 5, 2) := by decide +kernel
theorem dX3_tellAir_80 : decode cX3_tellAir 80 = .ok (.aload_n 1, 1) := by decide +kernel
theorem dX3_tellAir_81 : decode cX3_tellAir 81 = .ok (.iload_n 2, 1) := by decide +kernel
theorem dX3_tellAir_82 : decode cX3_tellAir 82 = .ok (.iload 4, 2) := by decide +kernel
theorem dX3_tellAir_84 : decode cX3_tellAir 84 = .ok (.iload 5, 2) := by decide +kernel
theorem dX3_tellAir_86 : decode cX3_tellAir 86 = .ok (.iload_n 3, 1) := by decide +kernel
theorem dX3_tellAir_87 : decode cX3_tellAir 87 = .ok (.invokevirtual 107, 3) := by decide +kernel
theorem dX3_tellAir_90 : decode cX3_tellAir 90 = .ok (.pop, 1) := by decide +kernel
theorem dX3_tellAir_91 : decode cX3_tellAir 91 = .ok (.return_, 1) := by decide +kernel
theorem dX3_tellWet_0 : decode cX3_tellWet 0 = .ok (.aload_n 0, 1) := by decide +kernel
theorem dX3_tellWet_1 : decode cX3_tellWet 1 = .ok (.iconst 0, 1) := by decide +kernel
theorem dX3_tellWet_2 : decode cX3_tellWet 2 = .ok (.bipush 15, 2) := by decide +kernel
theorem dX3_tellWet_4 : decode cX3_tellWet 4 = .ok (.invokevirtual 51, 3) := by decide +kernel
theorem dX3_tellWet_7 : decode cX3_tellWet 7 = .ok (.istore_n 2, 1) := by decide +kernel
theorem dX3_tellWet_8 : decode cX3_tellWet 8 = .ok (.aload_n 0, 1) := by decide +kernel
theorem dX3_tellWet_9 : decode cX3_tellWet 9 = .ok (.ldc 111, 2) := by decide +kernel
theorem dX3_tellWet_11 : decode cX3_tellWet 11 = .ok (.invokevirtual 99, 3) := by decide +kernel
theorem dX3_tellWet_14 : decode cX3_tellWet 14 = .ok (.aload_n 1, 1) := by decide +kernel
theorem dX3_tellWet_15 : decode cX3_tellWet 15 = .ok (.getfield 113, 3) := by decide +kernel
theorem dX3_tellWet_18 : decode cX3_tellWet 18 = .ok (.iload_n 2, 1) := by decide +kernel
theorem dX3_tellWet_19 : decode cX3_tellWet 19 = .ok (.aload_n 0, 1) := by decide +kernel
theorem dX3_tellWet_20 : decode cX3_tellWet 20 = .ok (.iconst 0, 1) := by decide +kernel
theorem dX3_tellWet_21 : decode cX3_tellWet 21 = .ok (.bipush 99, 2) := by decide +kernel
theorem dX3_tellWet_23 : decode cX3_tellWet 23 = .ok (.invokevirtual 51, 3) := by decide +kernel
theorem dX3_tellWet_26 : decode cX3_tellWet 26 = .ok (.iastore, 1) := by decide +kernel
theorem dX3_tellWet_27 : decode cX3_tellWet 27 = .ok (.return_, 1) := by decide +kernel
theorem dX3_tellLaw_0 : decode cX3_tellLaw 0 = .ok (.aload_n 1, 1) := by decide +kernel
theorem dX3_tellLaw_1 : decode cX3_tellLaw 1 = .ok (.getfield 115, 3) := by decide +kernel
theorem dX3_tellLaw_4 : decode cX3_tellLaw 4 = .ok (.iload_n 2, 1) := by decide +kernel
theorem dX3_tellLaw_5 : decode cX3_tellLaw 5 = .ok (.aload_n 0, 1) := by decide +kernel
theorem dX3_tellLaw_6 : decode cX3_tellLaw 6 = .ok (.getstatic 118, 3) := by decide +kernel
theorem dX3_tellLaw_9 : decode cX3_tellLaw 9 = .ok (.iload_n 2, 1) := by decide +kernel
theorem dX3_tellLaw_10 : decode cX3_tellLaw 10 = .ok (.iaload, 1) := by decide +kernel
theorem dX3_tellLaw_11 : decode cX3_tellLaw 11 = .ok (.getstatic 121, 3) := by decide +kernel
theorem dX3_tellLaw_14 : decode cX3_tellLaw 14 = .ok (.iload_n 2, 1) := by decide +kernel
theorem dX3_tellLaw_15 : decode cX3_tellLaw 15 = .ok (.iaload, 1) := by decide +kernel
theorem dX3_tellLaw_16 : decode cX3_tellLaw 16 = .ok (.invokevirtual 51, 3) := by decide +kernel
theorem dX3_tellLaw_19 : decode cX3_tellLaw 19 = .ok (.iastore, 1) := by decide +kernel
theorem dX3_tellLaw_20 : decode cX3_tellLaw 20 = .ok (.return_, 1) := by decide +kernel
theorem dX3_number_0 : decode cX3_number 0 = .ok (.aload_n 0, 1) := by decide +kernel
theorem dX3_number_1 : decode cX3_number 1 = .ok (.invokevirtual 25, 3) := by decide +kernel
theorem dX3_number_4 : decode cX3_number 4 = .ok (.aload_n 0, 1) := by decide +kernel
theorem dX3_number_5 : decode cX3_number 5 = .ok (.invokevirtual 124, 3) := by decide +kernel
theorem dX3_number_8 : decode cX3_number 8 = .ok (.istore_n 3, 1) := by decide +kernel
theorem dX3_number_9 : decode cX3_number 9 = .ok (.iconst 0, 1) := by decide +kernel
theorem dX3_number_10 : decode cX3_number 10 = .ok (.istore 4, 2) := by decide +kernel
theorem dX3_number_12 : decode cX3_number 12 = .ok (.aload_n 0, 1) := by decide +kernel
theorem dX3_number_13 : decode cX3_number 13 = .ok (.getfield 19, 3) := by decide +kernel
theorem dX3_number_16 : decode cX3_number 16 = .ok (.istore 5, 2) := by decide +kernel
theorem dX3_number_18 : decode cX3_number 18 = .ok (.iload 5, 2) := by decide +kernel
theorem dX3_number_20 : decode cX3_number 20 = .ok (.iload_n 3, 1) := by decide +kernel
theorem dX3_number_21 : decode cX3_number 21 = .ok (.if_icmp .ge 38, 3) := by decide +kernel
theorem dX3_number_24 : decode cX3_number 24 = .ok (.iload 5, 2) := by decide +kernel
theorem dX3_number_26 : decode cX3_number 26 = .ok (.aload_n 0, 1) := by decide +kernel
theorem dX3_number_27 : decode cX3_number 27 = .ok (.getfield 19, 3) := by decide +kernel
theorem dX3_number_30 : decode cX3_number 30 = .ok (.iconst 3, 1) := by decide +kernel
theorem dX3_number_31 : decode cX3_number 31 = .ok (.iadd, 1) := by decide +kernel
theorem dX3_number_32 : decode cX3_number 32 = .ok (.if_icmp .ge 27, 3) := by decide +kernel
theorem dX3_number_35 : decode cX3_number 35 = .ok (.iload 4, 2) := by decide +kernel
theorem dX3_number_37 : decode cX3_number 37 = .ok (.bipush 10, 2) := by decide +kernel
theorem dX3_number_39 : decode cX3_number 39 = .ok (.imul, 1) := by decide +kernel
theorem dX3_number_40 : decode cX3_number 40 = .ok (.aload_n 0, 1) := by decide +kernel
theorem dX3_number_41 : decode cX3_number 41 = .ok (.getfield 11, 3) := by decide +kernel
theorem dX3_number_44 : decode cX3_number 44 = .ok (.iload 5, 2) := by decide +kernel
theorem dX3_number_46 : decode cX3_number 46 = .ok (.iaload, 1) := by decide +kernel
theorem dX3_number_47 : decode cX3_number 47 = .ok (.iadd, 1) := by decide +kernel
theorem dX3_number_48 : decode cX3_number 48 = .ok (.bipush 48, 2) := by decide +kernel
theorem dX3_number_50 : decode cX3_number 50 = .ok (.isub, 1) := by decide +kernel
theorem dX3_number_51 : decode cX3_number 51 = .ok (.istore 4, 2) := by decide +kernel
theorem dX3_number_53 : decode cX3_number 53 = .ok (.iinc 5 1, 3) := by decide +kernel
theorem dX3_number_56 : decode cX3_number 56 = .ok (.goto (-38), 3) := by decide +kernel
theorem dX3_number_59 : decode cX3_number 59 = .ok (.iload_n 3, 1) := by decide +kernel
theorem dX3_number_60 : decode cX3_number 60 = .ok (.aload_n 0, 1) := by decide +kernel
theorem dX3_number_61 : decode cX3_number 61 = .ok (.getfield 19, 3) := by decide +kernel
theorem dX3_number_64 : decode cX3_number 64 = .ok (.if_icmp .eq 23, 3) := by decide +kernel
theorem dX3_number_67 : decode cX3_number 67 = .ok (.iload_n 3, 1) := by decide +kernel
theorem dX3_number_68 : decode cX3_number 68 = .ok (.aload_n 0, 1) := by decide +kernel
theorem dX3_number_69 : decode cX3_number 69 = .ok (.getfield 19, 3) := by decide +kernel
theorem dX3_number_72 : decode cX3_number 72 = .ok (.iconst 3, 1) := by decide +kernel
theorem dX3_number_73 : decode cX3_number 73 = .ok (.iadd, 1) := by decide +kernel
theorem dX3_number_74 : decode cX3_number 74 = .ok (.if_icmp .gt 13, 3) := by decide +kernel
theorem dX3_number_77 : decode cX3_number 77 = .ok (.iload 4, 2) := by decide +kernel
theorem dX3_number_79 : decode cX3_number 79 = .ok (.iload_n 1, 1) := by decide +kernel
theorem dX3_number_80 : decode cX3_number 80 = .ok (.iload_n 2, 1) := by decide +kernel
theorem dX3_number_81 : decode cX3_number 81 = .ok (.invokestatic 127, 3) := by decide +kernel
theorem dX3_number_84 : decode cX3_number 84 = .ok (.ifCond .ne 9, 3) := by decide +kernel
theorem dX3_number_87 : decode cX3_number 87 = .ok (.aload_n 0, 1) := by decide +kernel
theorem dX3_number_88 : decode cX3_number 88 = .ok (.invokevirtual 70, 3) := by decide +kernel
theorem dX3_number_91 : decode cX3_number 91 = .ok (.iload_n 1, 1) := by decide +kernel
theorem dX3_number_92 : decode cX3_number 92 = .ok (.ireturn, 1) := by decide +kernel
theorem dX3_number_93 : decode cX3_number 93 = .ok (.aload_n 0, 1) := by decide +kernel
theorem dX3_number_94 : decode cX3_number 94 = .ok (.iload_n 3, 1) := by decide +kernel
theorem dX3_number_95 : decode cX3_number 95 = .ok (.putfield 19, 3) := by decide +kernel
theorem dX3_number_98 : decode cX3_number 98 = .ok (.iload 4, 2) := by decide +kernel
theorem dX3_number_100 : decode cX3_number 100 = .ok (.ireturn, 1) := by decide +kernel
theorem dX3_takeName_0 : decode cX3_takeName 0 = .ok (.aload_n 0, 1) := by decide +kernel
theorem dX3_takeName_1 : decode cX3_takeName 1 = .ok (.invokevirtual 25, 3) := by decide +kernel
theorem dX3_takeName_4 : decode cX3_takeName 4 = .ok (.aload_n 0, 1) := by decide +kernel
theorem dX3_takeName_5 : decode cX3_takeName 5 = .ok (.aload_n 1, 1) := by decide +kernel
theorem dX3_takeName_6 : decode cX3_takeName 6 = .ok (.invokevirtual 78, 3) := by decide +kernel
theorem dX3_takeName_9 : decode cX3_takeName 9 = .ok (.ifCond .eq 14, 3) := by decide +kernel
theorem dX3_takeName_12 : decode cX3_takeName 12 = .ok (.aload_n 0, 1) := by decide +kernel
theorem dX3_takeName_13 : decode cX3_takeName 13 = .ok (.aload_n 0, 1) := by decide +kernel
theorem dX3_takeName_14 : decode cX3_takeName 14 = .ok (.invokevirtual 94, 3) := by decide +kernel
theorem dX3_takeName_17 : decode cX3_takeName 17 = .ok (.putfield 19, 3) := by decide +kernel
theorem dX3_takeName_20 : decode cX3_takeName 20 = .ok (.goto 7, 3) := by decide +kernel
theorem dX3_takeName_23 : decode cX3_takeName 23 = .ok (.aload_n 0, 1) := by decide +kernel
theorem dX3_takeName_24 : decode cX3_takeName 24 = .ok (.invokevirtual 70, 3) := by decide +kernel
theorem dX3_takeName_27 : decode cX3_takeName 27 = .ok (.return_, 1) := by decide +kernel
theorem dX3_takesName_0 : decode cX3_takesName 0 = .ok (.aload_n 0, 1) := by decide +kernel
theorem dX3_takesName_1 : decode cX3_takesName 1 = .ok (.invokevirtual 25, 3) := by decide +kernel
theorem dX3_takesName_4 : decode cX3_takesName 4 = .ok (.aload_n 0, 1) := by decide +kernel
theorem dX3_takesName_5 : decode cX3_takesName 5 = .ok (.aload_n 1, 1) := by decide +kernel
theorem dX3_takesName_6 : decode cX3_takesName 6 = .ok (.invokevirtual 78, 3) := by decide +kernel
theorem dX3_takesName_9 : decode cX3_takesName 9 = .ok (.ifCond .ne 5, 3) := by decide +kernel
theorem dX3_takesName_12 : decode cX3_takesName 12 = .ok (.iconst 0, 1) := by decide +kernel
theorem dX3_takesName_13 : decode cX3_takesName 13 = .ok (.ireturn, 1) := by decide +kernel
theorem dX3_takesName_14 : decode cX3_takesName 14 = .ok (.aload_n 0, 1) := by decide +kernel
theorem dX3_takesName_15 : decode cX3_takesName 15 = .ok (.aload_n 0, 1) := by decide +kernel
theorem dX3_takesName_16 : decode cX3_takesName 16 = .ok (.invokevirtual 94, 3) := by decide +kernel
theorem dX3_takesName_19 : decode cX3_takesName 19 = .ok (.putfield 19, 3) := by decide +kernel
theorem dX3_takesName_22 : decode cX3_takesName 22 = .ok (.iconst 1, 1) := by decide +kernel
theorem dX3_takesName_23 : decode cX3_takesName 23 = .ok (.ireturn, 1) := by decide +kernel
theorem dX3_takeMark_0 : decode cX3_takeMark 0 = .ok (.aload_n 0, 1) := by decide +kernel
theorem dX3_takeMark_1 : decode cX3_takeMark 1 = .ok (.invokevirtual 25, 3) := by decide +kernel
theorem dX3_takeMark_4 : decode cX3_takeMark 4 = .ok (.aload_n 0, 1) := by decide +kernel
theorem dX3_takeMark_5 : decode cX3_takeMark 5 = .ok (.getfield 19, 3) := by decide +kernel
theorem dX3_takeMark_8 : decode cX3_takeMark 8 = .ok (.aload_n 0, 1) := by decide +kernel
theorem dX3_takeMark_9 : decode cX3_takeMark 9 = .ok (.getfield 15, 3) := by decide +kernel
theorem dX3_takeMark_12 : decode cX3_takeMark 12 = .ok (.if_icmp .ge 30, 3) := by decide +kernel
theorem dX3_takeMark_15 : decode cX3_takeMark 15 = .ok (.aload_n 0, 1) := by decide +kernel
theorem dX3_takeMark_16 : decode cX3_takeMark 16 = .ok (.getfield 11, 3) := by decide +kernel
theorem dX3_takeMark_19 : decode cX3_takeMark 19 = .ok (.aload_n 0, 1) := by decide +kernel
theorem dX3_takeMark_20 : decode cX3_takeMark 20 = .ok (.getfield 19, 3) := by decide +kernel
theorem dX3_takeMark_23 : decode cX3_takeMark 23 = .ok (.iaload, 1) := by decide +kernel
theorem dX3_takeMark_24 : decode cX3_takeMark 24 = .ok (.bipush 59, 2) := by decide +kernel
theorem dX3_takeMark_26 : decode cX3_takeMark 26 = .ok (.if_icmp .ne 16, 3) := by decide +kernel
theorem dX3_takeMark_29 : decode cX3_takeMark 29 = .ok (.aload_n 0, 1) := by decide +kernel
theorem dX3_takeMark_30 : decode cX3_takeMark 30 = .ok (.dup, 1) := by decide +kernel
theorem dX3_takeMark_31 : decode cX3_takeMark 31 = .ok (.getfield 19, 3) := by decide +kernel
theorem dX3_takeMark_34 : decode cX3_takeMark 34 = .ok (.iconst 1, 1) := by decide +kernel
theorem dX3_takeMark_35 : decode cX3_takeMark 35 = .ok (.iadd, 1) := by decide +kernel
theorem dX3_takeMark_36 : decode cX3_takeMark 36 = .ok (.putfield 19, 3) := by decide +kernel
theorem dX3_takeMark_39 : decode cX3_takeMark 39 = .ok (.goto 7, 3) := by decide +kernel
theorem dX3_takeMark_42 : decode cX3_takeMark 42 = .ok (.aload_n 0, 1) := by decide +kernel
theorem dX3_takeMark_43 : decode cX3_takeMark 43 = .ok (.invokevirtual 70, 3) := by decide +kernel
theorem dX3_takeMark_46 : decode cX3_takeMark 46 = .ok (.return_, 1) := by decide +kernel
theorem dX3_isNameHere_0 : decode cX3_isNameHere 0 = .ok (.aload_n 0, 1) := by decide +kernel
theorem dX3_isNameHere_1 : decode cX3_isNameHere 1 = .ok (.invokevirtual 94, 3) := by decide +kernel
theorem dX3_isNameHere_4 : decode cX3_isNameHere 4 = .ok (.aload_n 0, 1) := by decide +kernel
theorem dX3_isNameHere_5 : decode cX3_isNameHere 5 = .ok (.getfield 19, 3) := by decide +kernel
theorem dX3_isNameHere_8 : decode cX3_isNameHere 8 = .ok (.isub, 1) := by decide +kernel
theorem dX3_isNameHere_9 : decode cX3_isNameHere 9 = .ok (.aload_n 1, 1) := by decide +kernel
theorem dX3_isNameHere_10 : decode cX3_isNameHere 10 = .ok (.invokevirtual 131, 3) := by decide +kernel
theorem dX3_isNameHere_13 : decode cX3_isNameHere 13 = .ok (.if_icmp .eq 5, 3) := by decide +kernel
theorem dX3_isNameHere_16 : decode cX3_isNameHere 16 = .ok (.iconst 0, 1) := by decide +kernel
theorem dX3_isNameHere_17 : decode cX3_isNameHere 17 = .ok (.ireturn, 1) := by decide +kernel
theorem dX3_isNameHere_18 : decode cX3_isNameHere 18 = .ok (.iconst 0, 1) := by decide +kernel
theorem dX3_isNameHere_19 : decode cX3_isNameHere 19 = .ok (.istore_n 2, 1) := by decide +kernel
theorem dX3_isNameHere_20 : decode cX3_isNameHere 20 = .ok (.iload_n 2, 1) := by decide +kernel
theorem dX3_isNameHere_21 : decode cX3_isNameHere 21 = .ok (.aload_n 1, 1) := by decide +kernel
theorem dX3_isNameHere_22 : decode cX3_isNameHere 22 = .ok (.invokevirtual 131, 3) := by decide +kernel
theorem dX3_isNameHere_25 : decode cX3_isNameHere 25 = .ok (.if_icmp .ge 30, 3) := by decide +kernel
theorem dX3_isNameHere_28 : decode cX3_isNameHere 28 = .ok (.aload_n 0, 1) := by decide +kernel
theorem dX3_isNameHere_29 : decode cX3_isNameHere 29 = .ok (.getfield 11, 3) := by decide +kernel
theorem dX3_isNameHere_32 : decode cX3_isNameHere 32 = .ok (.aload_n 0, 1) := by decide +kernel
theorem dX3_isNameHere_33 : decode cX3_isNameHere 33 = .ok (.getfield 19, 3) := by decide +kernel
theorem dX3_isNameHere_36 : decode cX3_isNameHere 36 = .ok (.iload_n 2, 1) := by decide +kernel
theorem dX3_isNameHere_37 : decode cX3_isNameHere 37 = .ok (.iadd, 1) := by decide +kernel
theorem dX3_isNameHere_38 : decode cX3_isNameHere 38 = .ok (.iaload, 1) := by decide +kernel
theorem dX3_isNameHere_39 : decode cX3_isNameHere 39 = .ok (.aload_n 1, 1) := by decide +kernel
theorem dX3_isNameHere_40 : decode cX3_isNameHere 40 = .ok (.iload_n 2, 1) := by decide +kernel
theorem dX3_isNameHere_41 : decode cX3_isNameHere 41 = .ok (.invokevirtual 136, 3) := by decide +kernel
theorem dX3_isNameHere_44 : decode cX3_isNameHere 44 = .ok (.if_icmp .eq 5, 3) := by decide +kernel
theorem dX3_isNameHere_47 : decode cX3_isNameHere 47 = .ok (.iconst 0, 1) := by decide +kernel
theorem dX3_isNameHere_48 : decode cX3_isNameHere 48 = .ok (.ireturn, 1) := by decide +kernel
theorem dX3_isNameHere_49 : decode cX3_isNameHere 49 = .ok (.iinc 2 1, 3) := by decide +kernel
theorem dX3_isNameHere_52 : decode cX3_isNameHere 52 = .ok (.goto (-32), 3) := by decide +kernel
theorem dX3_isNameHere_55 : decode cX3_isNameHere 55 = .ok (.iconst 1, 1) := by decide +kernel
theorem dX3_isNameHere_56 : decode cX3_isNameHere 56 = .ok (.ireturn, 1) := by decide +kernel
theorem dX3_endOfName_0 : decode cX3_endOfName 0 = .ok (.aload_n 0, 1) := by decide +kernel
theorem dX3_endOfName_1 : decode cX3_endOfName 1 = .ok (.getfield 19, 3) := by decide +kernel
theorem dX3_endOfName_4 : decode cX3_endOfName 4 = .ok (.istore_n 1, 1) := by decide +kernel
theorem dX3_endOfName_5 : decode cX3_endOfName 5 = .ok (.iload_n 1, 1) := by decide +kernel
theorem dX3_endOfName_6 : decode cX3_endOfName 6 = .ok (.aload_n 0, 1) := by decide +kernel
theorem dX3_endOfName_7 : decode cX3_endOfName 7 = .ok (.getfield 15, 3) := by decide +kernel
theorem dX3_endOfName_10 : decode cX3_endOfName 10 = .ok (.if_icmp .ge 31, 3) := by decide +kernel
theorem dX3_endOfName_13 : decode cX3_endOfName 13 = .ok (.aload_n 0, 1) := by decide +kernel
theorem dX3_endOfName_14 : decode cX3_endOfName 14 = .ok (.getfield 11, 3) := by decide +kernel
theorem dX3_endOfName_17 : decode cX3_endOfName 17 = .ok (.iload_n 1, 1) := by decide +kernel
theorem dX3_endOfName_18 : decode cX3_endOfName 18 = .ok (.iaload, 1) := by decide +kernel
theorem dX3_endOfName_19 : decode cX3_endOfName 19 = .ok (.bipush 97, 2) := by decide +kernel
theorem dX3_endOfName_21 : decode cX3_endOfName 21 = .ok (.if_icmp .lt 20, 3) := by decide +kernel
theorem dX3_endOfName_24 : decode cX3_endOfName 24 = .ok (.aload_n 0, 1) := by decide +kernel
theorem dX3_endOfName_25 : decode cX3_endOfName 25 = .ok (.getfield 11, 3) := by decide +kernel
theorem dX3_endOfName_28 : decode cX3_endOfName 28 = .ok (.iload_n 1, 1) := by decide +kernel
theorem dX3_endOfName_29 : decode cX3_endOfName 29 = .ok (.iaload, 1) := by decide +kernel
theorem dX3_endOfName_30 : decode cX3_endOfName 30 = .ok (.bipush 122, 2) := by decide +kernel
theorem dX3_endOfName_32 : decode cX3_endOfName 32 = .ok (.if_icmp .gt 9, 3) := by decide +kernel
theorem dX3_endOfName_35 : decode cX3_endOfName 35 = .ok (.iinc 1 1, 3) := by decide +kernel
theorem dX3_endOfName_38 : decode cX3_endOfName 38 = .ok (.goto (-33), 3) := by decide +kernel
theorem dX3_endOfName_41 : decode cX3_endOfName 41 = .ok (.iload_n 1, 1) := by decide +kernel
theorem dX3_endOfName_42 : decode cX3_endOfName 42 = .ok (.ireturn, 1) := by decide +kernel
theorem dX3_endOfNumber_0 : decode cX3_endOfNumber 0 = .ok (.aload_n 0, 1) := by decide +kernel
theorem dX3_endOfNumber_1 : decode cX3_endOfNumber 1 = .ok (.getfield 19, 3) := by decide +kernel
theorem dX3_endOfNumber_4 : decode cX3_endOfNumber 4 = .ok (.istore_n 1, 1) := by decide +kernel
theorem dX3_endOfNumber_5 : decode cX3_endOfNumber 5 = .ok (.iload_n 1, 1) := by decide +kernel
theorem dX3_endOfNumber_6 : decode cX3_endOfNumber 6 = .ok (.aload_n 0, 1) := by decide +kernel
theorem dX3_endOfNumber_7 : decode cX3_endOfNumber 7 = .ok (.getfield 15, 3) := by decide +kernel
theorem dX3_endOfNumber_10 : decode cX3_endOfNumber 10 = .ok (.if_icmp .ge 31, 3) := by decide +kernel
theorem dX3_endOfNumber_13 : decode cX3_endOfNumber 13 = .ok (.aload_n 0, 1) := by decide +kernel
theorem dX3_endOfNumber_14 : decode cX3_endOfNumber 14 = .ok (.getfield 11, 3) := by decide +kernel
theorem dX3_endOfNumber_17 : decode cX3_endOfNumber 17 = .ok (.iload_n 1, 1) := by decide +kernel
theorem dX3_endOfNumber_18 : decode cX3_endOfNumber 18 = .ok (.iaload, 1) := by decide +kernel
theorem dX3_endOfNumber_19 : decode cX3_endOfNumber 19 = .ok (.bipush 48, 2) := by decide +kernel
theorem dX3_endOfNumber_21 : decode cX3_endOfNumber 21 = .ok (.if_icmp .lt 20, 3) := by decide +kernel
theorem dX3_endOfNumber_24 : decode cX3_endOfNumber 24 = .ok (.aload_n 0, 1) := by decide +kernel
theorem dX3_endOfNumber_25 : decode cX3_endOfNumber 25 = .ok (.getfield 11, 3) := by decide +kernel
theorem dX3_endOfNumber_28 : decode cX3_endOfNumber 28 = .ok (.iload_n 1, 1) := by decide +kernel
theorem dX3_endOfNumber_29 : decode cX3_endOfNumber 29 = .ok (.iaload, 1) := by decide +kernel
theorem dX3_endOfNumber_30 : decode cX3_endOfNumber 30 = .ok (.bipush 57, 2) := by decide +kernel
theorem dX3_endOfNumber_32 : decode cX3_endOfNumber 32 = .ok (.if_icmp .gt 9, 3) := by decide +kernel
theorem dX3_endOfNumber_35 : decode cX3_endOfNumber 35 = .ok (.iinc 1 1, 3) := by decide +kernel
theorem dX3_endOfNumber_38 : decode cX3_endOfNumber 38 = .ok (.goto (-33), 3) := by decide +kernel
theorem dX3_endOfNumber_41 : decode cX3_endOfNumber 41 = .ok (.iload_n 1, 1) := by decide +kernel
theorem dX3_endOfNumber_42 : decode cX3_endOfNumber 42 = .ok (.ireturn, 1) := by decide +kernel
theorem dX3_skipBlanks_0 : decode cX3_skipBlanks 0 = .ok (.aload_n 0, 1) := by decide +kernel
theorem dX3_skipBlanks_1 : decode cX3_skipBlanks 1 = .ok (.getfield 19, 3) := by decide +kernel
theorem dX3_skipBlanks_4 : decode cX3_skipBlanks 4 = .ok (.aload_n 0, 1) := by decide +kernel
theorem dX3_skipBlanks_5 : decode cX3_skipBlanks 5 = .ok (.getfield 15, 3) := by decide +kernel
theorem dX3_skipBlanks_8 : decode cX3_skipBlanks 8 = .ok (.if_icmp .ge 30, 3) := by decide +kernel
theorem dX3_skipBlanks_11 : decode cX3_skipBlanks 11 = .ok (.aload_n 0, 1) := by decide +kernel
theorem dX3_skipBlanks_12 : decode cX3_skipBlanks 12 = .ok (.getfield 11, 3) := by decide +kernel
theorem dX3_skipBlanks_15 : decode cX3_skipBlanks 15 = .ok (.aload_n 0, 1) := by decide +kernel
theorem dX3_skipBlanks_16 : decode cX3_skipBlanks 16 = .ok (.getfield 19, 3) := by decide +kernel
theorem dX3_skipBlanks_19 : decode cX3_skipBlanks 19 = .ok (.iaload, 1) := by decide +kernel
theorem dX3_skipBlanks_20 : decode cX3_skipBlanks 20 = .ok (.bipush 32, 2) := by decide +kernel
theorem dX3_skipBlanks_22 : decode cX3_skipBlanks 22 = .ok (.if_icmp .ne 16, 3) := by decide +kernel
theorem dX3_skipBlanks_25 : decode cX3_skipBlanks 25 = .ok (.aload_n 0, 1) := by decide +kernel
theorem dX3_skipBlanks_26 : decode cX3_skipBlanks 26 = .ok (.dup, 1) := by decide +kernel
theorem dX3_skipBlanks_27 : decode cX3_skipBlanks 27 = .ok (.getfield 19, 3) := by decide +kernel
theorem dX3_skipBlanks_30 : decode cX3_skipBlanks 30 = .ok (.iconst 1, 1) := by decide +kernel
theorem dX3_skipBlanks_31 : decode cX3_skipBlanks 31 = .ok (.iadd, 1) := by decide +kernel
theorem dX3_skipBlanks_32 : decode cX3_skipBlanks 32 = .ok (.putfield 19, 3) := by decide +kernel
theorem dX3_skipBlanks_35 : decode cX3_skipBlanks 35 = .ok (.goto (-35), 3) := by decide +kernel
theorem dX3_skipBlanks_38 : decode cX3_skipBlanks 38 = .ok (.return_, 1) := by decide +kernel
theorem dX3_findFault_0 : decode cX3_findFault 0 = .ok (.aload_n 0, 1) := by decide +kernel
theorem dX3_findFault_1 : decode cX3_findFault 1 = .ok (.getfield 22, 3) := by decide +kernel
theorem dX3_findFault_4 : decode cX3_findFault 4 = .ok (.ifCond .ge 11, 3) := by decide +kernel
theorem dX3_findFault_7 : decode cX3_findFault 7 = .ok (.aload_n 0, 1) := by decide +kernel
theorem dX3_findFault_8 : decode cX3_findFault 8 = .ok (.aload_n 0, 1) := by decide +kernel
theorem dX3_findFault_9 : decode cX3_findFault 9 = .ok (.getfield 19, 3) := by decide +kernel
theorem dX3_findFault_12 : decode cX3_findFault 12 = .ok (.putfield 22, 3) := by decide +kernel
theorem dX3_findFault_15 : decode cX3_findFault 15 = .ok (.return_, 1) := by decide +kernel
theorem dX4_init_0 : decode cX4_init 0 = .ok (.aload_n 0, 1) := by decide +kernel
theorem dX4_init_1 : decode cX4_init 1 = .ok (.invokespecial 3, 3) := by decide +kernel
theorem dX4_init_4 : decode cX4_init 4 = .ok (.aload_n 0, 1) := by decide +kernel
theorem dX4_init_5 : decode cX4_init 5 = .ok (.iconst 4, 1) := by decide +kernel
theorem dX4_init_6 : decode cX4_init 6 = .ok (.newarray .int, 2) := by decide +kernel
theorem dX4_init_8 : decode cX4_init 8 = .ok (.putfield 9, 3) := by decide +kernel
theorem dX4_init_11 : decode cX4_init 11 = .ok (.aload_n 0, 1) := by decide +kernel
theorem dX4_init_12 : decode cX4_init 12 = .ok (.bipush 16, 2) := by decide +kernel
theorem dX4_init_14 : decode cX4_init 14 = .ok (.newarray .int, 2) := by decide +kernel
theorem dX4_init_16 : decode cX4_init 16 = .ok (.putfield 15, 3) := by decide +kernel
theorem dX4_init_19 : decode cX4_init 19 = .ok (.aload_n 0, 1) := by decide +kernel
theorem dX4_init_20 : decode cX4_init 20 = .ok (.bipush 8, 2) := by decide +kernel
theorem dX4_init_22 : decode cX4_init 22 = .ok (.newarray .int, 2) := by decide +kernel
theorem dX4_init_24 : decode cX4_init 24 = .ok (.putfield 18, 3) := by decide +kernel
theorem dX4_init_27 : decode cX4_init 27 = .ok (.aload_n 0, 1) := by decide +kernel
theorem dX4_init_28 : decode cX4_init 28 = .ok (.bipush 8, 2) := by decide +kernel
theorem dX4_init_30 : decode cX4_init 30 = .ok (.newarray .int, 2) := by decide +kernel
theorem dX4_init_32 : decode cX4_init 32 = .ok (.putfield 21, 3) := by decide +kernel
theorem dX4_init_35 : decode cX4_init 35 = .ok (.aload_n 0, 1) := by decide +kernel
theorem dX4_init_36 : decode cX4_init 36 = .ok (.bipush 8, 2) := by decide +kernel
theorem dX4_init_38 : decode cX4_init 38 = .ok (.newarray .int, 2) := by decide +kernel
theorem dX4_init_40 : decode cX4_init 40 = .ok (.putfield 24, 3) := by decide +kernel
theorem dX4_init_43 : decode cX4_init 43 = .ok (.aload_n 0, 1) := by decide +kernel
theorem dX4_init_44 : decode cX4_init 44 = .ok (.bipush 8, 2) := by decide +kernel
theorem dX4_init_46 : decode cX4_init 46 = .ok (.newarray .int, 2) := by decide +kernel
theorem dX4_init_48 : decode cX4_init 48 = .ok (.putfield 27, 3) := by decide +kernel
theorem dX4_init_51 : decode cX4_init 51 = .ok (.aload_n 0, 1) := by decide +kernel
theorem dX4_init_52 : decode cX4_init 52 = .ok (.iconst 1, 1) := by decide +kernel
theorem dX4_init_53 : decode cX4_init 53 = .ok (.putfield 30, 3) := by decide +kernel
theorem dX4_init_56 : decode cX4_init 56 = .ok (.getstatic 34, 3) := by decide +kernel
theorem dX4_init_59 : decode cX4_init 59 = .ok (.iconst 0, 1) := by decide +kernel
theorem dX4_init_60 : decode cX4_init 60 = .ok (.aload_n 0, 1) := by decide +kernel
theorem dX4_init_61 : decode cX4_init 61 = .ok (.getfield 9, 3) := by decide +kernel
theorem dX4_init_64 : decode cX4_init 64 = .ok (.iconst 0, 1) := by decide +kernel
theorem dX4_init_65 : decode cX4_init 65 = .ok (.iconst 4, 1) := by decide +kernel
theorem dX4_init_66 : decode cX4_init 66 = .ok (.invokestatic 37, 3) := by decide +kernel
theorem dX4_init_69 : decode cX4_init 69 = .ok (.return_, 1) := by decide +kernel
theorem dX4_clear_0 : decode cX4_clear 0 = .ok (.getstatic 34, 3) := by decide +kernel
theorem dX4_clear_3 : decode cX4_clear 3 = .ok (.iconst 0, 1) := by decide +kernel
theorem dX4_clear_4 : decode cX4_clear 4 = .ok (.aload_n 0, 1) := by decide +kernel
theorem dX4_clear_5 : decode cX4_clear 5 = .ok (.getfield 9, 3) := by decide +kernel
theorem dX4_clear_8 : decode cX4_clear 8 = .ok (.iconst 0, 1) := by decide +kernel
theorem dX4_clear_9 : decode cX4_clear 9 = .ok (.iconst 4, 1) := by decide +kernel
theorem dX4_clear_10 : decode cX4_clear 10 = .ok (.invokestatic 37, 3) := by decide +kernel
theorem dX4_clear_13 : decode cX4_clear 13 = .ok (.aload_n 0, 1) := by decide +kernel
theorem dX4_clear_14 : decode cX4_clear 14 = .ok (.getfield 15, 3) := by decide +kernel
theorem dX4_clear_17 : decode cX4_clear 17 = .ok (.iconst 0, 1) := by decide +kernel
theorem dX4_clear_18 : decode cX4_clear 18 = .ok (.invokestatic 43, 3) := by decide +kernel
theorem dX4_clear_21 : decode cX4_clear 21 = .ok (.aload_n 0, 1) := by decide +kernel
theorem dX4_clear_22 : decode cX4_clear 22 = .ok (.iconst 0, 1) := by decide +kernel
theorem dX4_clear_23 : decode cX4_clear 23 = .ok (.putfield 49, 3) := by decide +kernel
theorem dX4_clear_26 : decode cX4_clear 26 = .ok (.aload_n 0, 1) := by decide +kernel
theorem dX4_clear_27 : decode cX4_clear 27 = .ok (.iconst 0, 1) := by decide +kernel
theorem dX4_clear_28 : decode cX4_clear 28 = .ok (.putfield 52, 3) := by decide +kernel
theorem dX4_clear_31 : decode cX4_clear 31 = .ok (.aload_n 0, 1) := by decide +kernel
theorem dX4_clear_32 : decode cX4_clear 32 = .ok (.iconst 0, 1) := by decide +kernel
theorem dX4_clear_33 : decode cX4_clear 33 = .ok (.putfield 55, 3) := by decide +kernel
theorem dX4_clear_36 : decode cX4_clear 36 = .ok (.return_, 1) := by decide +kernel
theorem dX4_become_0 : decode cX4_become 0 = .ok (.aload_n 1, 1) := by decide +kernel
theorem dX4_become_1 : decode cX4_become 1 = .ok (.getfield 9, 3) := by decide +kernel
theorem dX4_become_4 : decode cX4_become 4 = .ok (.iconst 0, 1) := by decide +kernel
theorem dX4_become_5 : decode cX4_become 5 = .ok (.aload_n 0, 1) := by decide +kernel
theorem dX4_become_6 : decode cX4_become 6 = .ok (.getfield 9, 3) := by decide +kernel
theorem dX4_become_9 : decode cX4_become 9 = .ok (.iconst 0, 1) := by decide +kernel
theorem dX4_become_10 : decode cX4_become 10 = .ok (.iconst 4, 1) := by decide +kernel
theorem dX4_become_11 : decode cX4_become 11 = .ok (.invokestatic 37, 3) := by decide +kernel
theorem dX4_become_14 : decode cX4_become 14 = .ok (.aload_n 1, 1) := by decide +kernel
theorem dX4_become_15 : decode cX4_become 15 = .ok (.getfield 15, 3) := by decide +kernel
theorem dX4_become_18 : decode cX4_become 18 = .ok (.iconst 0, 1) := by decide +kernel
theorem dX4_become_19 : decode cX4_become 19 = .ok (.aload_n 0, 1) := by decide +kernel
theorem dX4_become_20 : decode cX4_become 20 = .ok (.getfield 15, 3) := by decide +kernel
theorem dX4_become_23 : decode cX4_become 23 = .ok (.iconst 0, 1) := by decide +kernel
theorem dX4_become_24 : decode cX4_become 24 = .ok (.bipush 16, 2) := by decide +kernel
theorem dX4_become_26 : decode cX4_become 26 = .ok (.invokestatic 37, 3) := by decide +kernel
theorem dX4_become_29 : decode cX4_become 29 = .ok (.aload_n 1, 1) := by decide +kernel
theorem dX4_become_30 : decode cX4_become 30 = .ok (.getfield 18, 3) := by decide +kernel
theorem dX4_become_33 : decode cX4_become 33 = .ok (.iconst 0, 1) := by decide +kernel
theorem dX4_become_34 : decode cX4_become 34 = .ok (.aload_n 0, 1) := by decide +kernel
theorem dX4_become_35 : decode cX4_become 35 = .ok (.getfield 18, 3) := by decide +kernel
theorem dX4_become_38 : decode cX4_become 38 = .ok (.iconst 0, 1) := by decide +kernel
theorem dX4_become_39 : decode cX4_become 39 = .ok (.bipush 8, 2) := by decide +kernel
theorem dX4_become_41 : decode cX4_become 41 = .ok (.invokestatic 37, 3) := by decide +kernel
theorem dX4_become_44 : decode cX4_become 44 = .ok (.aload_n 1, 1) := by decide +kernel
theorem dX4_become_45 : decode cX4_become 45 = .ok (.getfield 21, 3) := by decide +kernel
theorem dX4_become_48 : decode cX4_become 48 = .ok (.iconst 0, 1) := by decide +kernel
theorem dX4_become_49 : decode cX4_become 49 = .ok (.aload_n 0, 1) := by decide +kernel
theorem dX4_become_50 : decode cX4_become 50 = .ok (.getfield 21, 3) := by decide +kernel
theorem dX4_become_53 : decode cX4_become 53 = .ok (.iconst 0, 1) := by decide +kernel
theorem dX4_become_54 : decode cX4_become 54 = .ok (.bipush 8, 2) := by decide +kernel
theorem dX4_become_56 : decode cX4_become 56 = .ok (.invokestatic 37, 3) := by decide +kernel
theorem dX4_become_59 : decode cX4_become 59 = .ok (.aload_n 1, 1) := by decide +kernel
theorem dX4_become_60 : decode cX4_become 60 = .ok (.getfield 24, 3) := by decide +kernel
theorem dX4_become_63 : decode cX4_become 63 = .ok (.iconst 0, 1) := by decide +kernel
theorem dX4_become_64 : decode cX4_become 64 = .ok (.aload_n 0, 1) := by decide +kernel
theorem dX4_become_65 : decode cX4_become 65 = .ok (.getfield 24, 3) := by decide +kernel
theorem dX4_become_68 : decode cX4_become 68 = .ok (.iconst 0, 1) := by decide +kernel
theorem dX4_become_69 : decode cX4_become 69 = .ok (.bipush 8, 2) := by decide +kernel
theorem dX4_become_71 : decode cX4_become 71 = .ok (.invokestatic 37, 3) := by decide +kernel
theorem dX4_become_74 : decode cX4_become 74 = .ok (.aload_n 1, 1) := by decide +kernel
theorem dX4_become_75 : decode cX4_become 75 = .ok (.getfield 27, 3) := by decide +kernel
theorem dX4_become_78 : decode cX4_become 78 = .ok (.iconst 0, 1) := by decide +kernel
theorem dX4_become_79 : decode cX4_become 79 = .ok (.aload_n 0, 1) := by decide +kernel
theorem dX4_become_80 : decode cX4_become 80 = .ok (.getfield 27, 3) := by decide +kernel
theorem dX4_become_83 : decode cX4_become 83 = .ok (.iconst 0, 1) := by decide +kernel
theorem dX4_become_84 : decode cX4_become 84 = .ok (.bipush 8, 2) := by decide +kernel
theorem dX4_become_86 : decode cX4_become 86 = .ok (.invokestatic 37, 3) := by decide +kernel
theorem dX4_become_89 : decode cX4_become 89 = .ok (.aload_n 0, 1) := by decide +kernel
theorem dX4_become_90 : decode cX4_become 90 = .ok (.aload_n 1, 1) := by decide +kernel
theorem dX4_become_91 : decode cX4_become 91 = .ok (.getfield 49, 3) := by decide +kernel
theorem dX4_become_94 : decode cX4_become 94 = .ok (.putfield 49, 3) := by decide +kernel
theorem dX4_become_97 : decode cX4_become 97 = .ok (.aload_n 0, 1) := by decide +kernel
theorem dX4_become_98 : decode cX4_become 98 = .ok (.aload_n 1, 1) := by decide +kernel
theorem dX4_become_99 : decode cX4_become 99 = .ok (.getfield 52, 3) := by decide +kernel
theorem dX4_become_102 : decode cX4_become 102 = .ok (.putfield 52, 3) := by decide +kernel
theorem dX4_become_105 : decode cX4_become 105 = .ok (.aload_n 0, 1) := by decide +kernel
theorem dX4_become_106 : decode cX4_become 106 = .ok (.aload_n 1, 1) := by decide +kernel
theorem dX4_become_107 : decode cX4_become 107 = .ok (.getfield 55, 3) := by decide +kernel
theorem dX4_become_110 : decode cX4_become 110 = .ok (.putfield 55, 3) := by decide +kernel
theorem dX4_become_113 : decode cX4_become 113 = .ok (.aload_n 0, 1) := by decide +kernel
theorem dX4_become_114 : decode cX4_become 114 = .ok (.aload_n 1, 1) := by decide +kernel
theorem dX4_become_115 : decode cX4_become 115 = .ok (.getfield 30, 3) := by decide +kernel
theorem dX4_become_118 : decode cX4_become 118 = .ok (.putfield 30, 3) := by decide +kernel
theorem dX4_become_121 : decode cX4_become 121 = .ok (.return_, 1) := by decide +kernel
theorem dX4_has_0 : decode cX4_has 0 = .ok (.iload_n 1, 1) := by decide +kernel
theorem dX4_has_1 : decode cX4_has 1 = .ok (.iconst 0, 1) := by decide +kernel
theorem dX4_has_2 : decode cX4_has 2 = .ok (.aload_n 0, 1) := by decide +kernel
theorem dX4_has_3 : decode cX4_has 3 = .ok (.getfield 49, 3) := by decide +kernel
theorem dX4_has_6 : decode cX4_has 6 = .ok (.iconst 1, 1) := by decide +kernel
theorem dX4_has_7 : decode cX4_has 7 = .ok (.isub, 1) := by decide +kernel
theorem dX4_has_8 : decode cX4_has 8 = .ok (.invokestatic 58, 3) := by decide +kernel
theorem dX4_has_11 : decode cX4_has 11 = .ok (.ireturn, 1) := by decide +kernel
theorem dX4_add_0 : decode cX4_add 0 = .ok (.aload_n 0, 1) := by decide +kernel
theorem dX4_add_1 : decode cX4_add 1 = .ok (.getfield 49, 3) := by decide +kernel
theorem dX4_add_4 : decode cX4_add 4 = .ok (.bipush 8, 2) := by decide +kernel
theorem dX4_add_6 : decode cX4_add 6 = .ok (.if_icmp .lt 5, 3) := by decide +kernel
theorem dX4_add_9 : decode cX4_add 9 = .ok (.iconst 0, 1) := by decide +kernel
theorem dX4_add_10 : decode cX4_add 10 = .ok (.ireturn, 1) := by decide +kernel
theorem dX4_add_11 : decode cX4_add 11 = .ok (.aload_n 0, 1) := by decide +kernel
theorem dX4_add_12 : decode cX4_add 12 = .ok (.getfield 18, 3) := by decide +kernel
theorem dX4_add_15 : decode cX4_add 15 = .ok (.aload_n 0, 1) := by decide +kernel
theorem dX4_add_16 : decode cX4_add 16 = .ok (.getfield 49, 3) := by decide +kernel
theorem dX4_add_19 : decode cX4_add 19 = .ok (.iload_n 1, 1) := by decide +kernel
theorem dX4_add_20 : decode cX4_add 20 = .ok (.iastore, 1) := by decide +kernel
theorem dX4_add_21 : decode cX4_add 21 = .ok (.aload_n 0, 1) := by decide +kernel
theorem dX4_add_22 : decode cX4_add 22 = .ok (.getfield 21, 3) := by decide +kernel
theorem dX4_add_25 : decode cX4_add 25 = .ok (.aload_n 0, 1) := by decide +kernel
theorem dX4_add_26 : decode cX4_add 26 = .ok (.getfield 49, 3) := by decide +kernel
theorem dX4_add_29 : decode cX4_add 29 = .ok (.iload_n 2, 1) := by decide +kernel
theorem dX4_add_30 : decode cX4_add 30 = .ok (.iastore, 1) := by decide +kernel
theorem dX4_add_31 : decode cX4_add 31 = .ok (.aload_n 0, 1) := by decide +kernel
theorem dX4_add_32 : decode cX4_add 32 = .ok (.getfield 24, 3) := by decide +kernel
theorem dX4_add_35 : decode cX4_add 35 = .ok (.aload_n 0, 1) := by decide +kernel
theorem dX4_add_36 : decode cX4_add 36 = .ok (.getfield 49, 3) := by decide +kernel
theorem dX4_add_39 : decode cX4_add 39 = .ok (.iload_n 3, 1) := by decide +kernel
theorem dX4_add_40 : decode cX4_add 40 = .ok (.iastore, 1) := by decide +kernel
theorem dX4_add_41 : decode cX4_add 41 = .ok (.aload_n 0, 1) := by decide +kernel
theorem dX4_add_42 : decode cX4_add 42 = .ok (.getfield 27, 3) := by decide +kernel
theorem dX4_add_45 : decode cX4_add 45 = .ok (.aload_n 0, 1) := by decide +kernel
theorem dX4_add_46 : decode cX4_add 46 = .ok (.getfield 49, 3) := by decide +kernel
theorem dX4_add_49 : decode cX4_add 49 = .ok (.iload 4, 2) := by decide +kernel
theorem dX4_add_51 : decode cX4_add 51 = .ok (.iastore, 1) := by decide +kernel
theorem dX4_add_52 : decode cX4_add 52 = .ok (.aload_n 0, 1) := by decide +kernel
theorem dX4_add_53 : decode cX4_add 53 = .ok (.dup, 1) := by decide +kernel
theorem dX4_add_54 : decode cX4_add 54 = .ok (.getfield 49, 3) := by decide +kernel
theorem dX4_add_57 : decode cX4_add 57 = .ok (.iconst 1, 1) := by decide +kernel
theorem dX4_add_58 : decode cX4_add 58 = .ok (.iadd, 1) := by decide +kernel
theorem dX4_add_59 : decode cX4_add 59 = .ok (.putfield 49, 3) := by decide +kernel
theorem dX4_add_62 : decode cX4_add 62 = .ok (.iconst 1, 1) := by decide +kernel
theorem dX4_add_63 : decode cX4_add 63 = .ok (.ireturn, 1) := by decide +kernel
theorem dX4_goes_0 : decode cX4_goes 0 = .ok (.aload_n 0, 1) := by decide +kernel
theorem dX4_goes_1 : decode cX4_goes 1 = .ok (.iload_n 1, 1) := by decide +kernel
theorem dX4_goes_2 : decode cX4_goes 2 = .ok (.invokevirtual 62, 3) := by decide +kernel
theorem dX4_goes_5 : decode cX4_goes 5 = .ok (.istore_n 2, 1) := by decide +kernel
theorem dX4_goes_6 : decode cX4_goes 6 = .ok (.aload_n 0, 1) := by decide +kernel
theorem dX4_goes_7 : decode cX4_goes 7 = .ok (.getfield 27, 3) := by decide +kernel
theorem dX4_goes_10 : decode cX4_goes 10 = .ok (.iload_n 1, 1) := by decide +kernel
theorem dX4_goes_11 : decode cX4_goes 11 = .ok (.iaload, 1) := by decide +kernel
theorem dX4_goes_12 : decode cX4_goes 12 = .ok (.iload_n 2, 1) := by decide +kernel
theorem dX4_goes_13 : decode cX4_goes 13 = .ok (.invokestatic 66, 3) := by decide +kernel
theorem dX4_goes_16 : decode cX4_goes 16 = .ok (.aload_n 0, 1) := by decide +kernel
theorem dX4_goes_17 : decode cX4_goes 17 = .ok (.getfield 27, 3) := by decide +kernel
theorem dX4_goes_20 : decode cX4_goes 20 = .ok (.iload_n 1, 1) := by decide +kernel
theorem dX4_goes_21 : decode cX4_goes 21 = .ok (.iaload, 1) := by decide +kernel
theorem dX4_goes_22 : decode cX4_goes 22 = .ok (.if_icmp .ne 7, 3) := by decide +kernel
theorem dX4_goes_25 : decode cX4_goes 25 = .ok (.iconst 4, 1) := by decide +kernel
theorem dX4_goes_26 : decode cX4_goes 26 = .ok (.goto 4, 3) := by decide +kernel
theorem dX4_goes_29 : decode cX4_goes 29 = .ok (.iload_n 2, 1) := by decide +kernel
theorem dX4_goes_30 : decode cX4_goes 30 = .ok (.ireturn, 1) := by decide +kernel
theorem dX4_wayWanted_0 : decode cX4_wayWanted 0 = .ok (.aload_n 0, 1) := by decide +kernel
theorem dX4_wayWanted_1 : decode cX4_wayWanted 1 = .ok (.getfield 18, 3) := by decide +kernel
theorem dX4_wayWanted_4 : decode cX4_wayWanted 4 = .ok (.iload_n 1, 1) := by decide +kernel
theorem dX4_wayWanted_5 : decode cX4_wayWanted 5 = .ok (.iaload, 1) := by decide +kernel
theorem dX4_wayWanted_6 : decode cX4_wayWanted 6 = .ok (.tableswitch 113 1 5 #[34, 58, 63, 79, 111], 34) := by decide +kernel
theorem dX4_wayWanted_40 : decode cX4_wayWanted 40 = .ok (.aload_n 0, 1) := by decide +kernel
theorem dX4_wayWanted_41 : decode cX4_wayWanted 41 = .ok (.getfield 21, 3) := by decide +kernel
theorem dX4_wayWanted_44 : decode cX4_wayWanted 44 = .ok (.iload_n 1, 1) := by decide +kernel
theorem dX4_wayWanted_45 : decode cX4_wayWanted 45 = .ok (.iaload, 1) := by decide +kernel
theorem dX4_wayWanted_46 : decode cX4_wayWanted 46 = .ok (.aload_n 0, 1) := by decide +kernel
theorem dX4_wayWanted_47 : decode cX4_wayWanted 47 = .ok (.getfield 9, 3) := by decide +kernel
theorem dX4_wayWanted_50 : decode cX4_wayWanted 50 = .ok (.iconst 2, 1) := by decide +kernel
theorem dX4_wayWanted_51 : decode cX4_wayWanted 51 = .ok (.iaload, 1) := by decide +kernel
theorem dX4_wayWanted_52 : decode cX4_wayWanted 52 = .ok (.if_icmp .ge 7, 3) := by decide +kernel
theorem dX4_wayWanted_55 : decode cX4_wayWanted 55 = .ok (.iconst 4, 1) := by decide +kernel
theorem dX4_wayWanted_56 : decode cX4_wayWanted 56 = .ok (.goto 7, 3) := by decide +kernel
theorem dX4_wayWanted_59 : decode cX4_wayWanted 59 = .ok (.aload_n 0, 1) := by decide +kernel
theorem dX4_wayWanted_60 : decode cX4_wayWanted 60 = .ok (.getfield 55, 3) := by decide +kernel
theorem dX4_wayWanted_63 : decode cX4_wayWanted 63 = .ok (.ireturn, 1) := by decide +kernel
theorem dX4_wayWanted_64 : decode cX4_wayWanted 64 = .ok (.aload_n 0, 1) := by decide +kernel
theorem dX4_wayWanted_65 : decode cX4_wayWanted 65 = .ok (.invokevirtual 70, 3) := by decide +kernel
theorem dX4_wayWanted_68 : decode cX4_wayWanted 68 = .ok (.ireturn, 1) := by decide +kernel
theorem dX4_wayWanted_69 : decode cX4_wayWanted 69 = .ok (.aload_n 0, 1) := by decide +kernel
theorem dX4_wayWanted_70 : decode cX4_wayWanted 70 = .ok (.getfield 27, 3) := by decide +kernel
theorem dX4_wayWanted_73 : decode cX4_wayWanted 73 = .ok (.iload_n 1, 1) := by decide +kernel
theorem dX4_wayWanted_74 : decode cX4_wayWanted 74 = .ok (.iaload, 1) := by decide +kernel
theorem dX4_wayWanted_75 : decode cX4_wayWanted 75 = .ok (.aload_n 0, 1) := by decide +kernel
theorem dX4_wayWanted_76 : decode cX4_wayWanted 76 = .ok (.getfield 24, 3) := by decide +kernel
theorem dX4_wayWanted_79 : decode cX4_wayWanted 79 = .ok (.iload_n 1, 1) := by decide +kernel
theorem dX4_wayWanted_80 : decode cX4_wayWanted 80 = .ok (.iaload, 1) := by decide +kernel
theorem dX4_wayWanted_81 : decode cX4_wayWanted 81 = .ok (.invokestatic 74, 3) := by decide +kernel
theorem dX4_wayWanted_84 : decode cX4_wayWanted 84 = .ok (.ireturn, 1) := by decide +kernel
theorem dX4_wayWanted_85 : decode cX4_wayWanted 85 = .ok (.aload_n 0, 1) := by decide +kernel
theorem dX4_wayWanted_86 : decode cX4_wayWanted 86 = .ok (.getfield 52, 3) := by decide +kernel
theorem dX4_wayWanted_89 : decode cX4_wayWanted 89 = .ok (.iconst 4, 1) := by decide +kernel
theorem dX4_wayWanted_90 : decode cX4_wayWanted 90 = .ok (.irem, 1) := by decide +kernel
theorem dX4_wayWanted_91 : decode cX4_wayWanted 91 = .ok (.ifCond .ne 10, 3) := by decide +kernel
theorem dX4_wayWanted_94 : decode cX4_wayWanted 94 = .ok (.aload_n 0, 1) := by decide +kernel
theorem dX4_wayWanted_95 : decode cX4_wayWanted 95 = .ok (.invokevirtual 70, 3) := by decide +kernel
theorem dX4_wayWanted_98 : decode cX4_wayWanted 98 = .ok (.goto 18, 3) := by decide +kernel
theorem dX4_wayWanted_101 : decode cX4_wayWanted 101 = .ok (.aload_n 0, 1) := by decide +kernel
theorem dX4_wayWanted_102 : decode cX4_wayWanted 102 = .ok (.getfield 27, 3) := by decide +kernel
theorem dX4_wayWanted_105 : decode cX4_wayWanted 105 = .ok (.iload_n 1, 1) := by decide +kernel
theorem dX4_wayWanted_106 : decode cX4_wayWanted 106 = .ok (.iaload, 1) := by decide +kernel
theorem dX4_wayWanted_107 : decode cX4_wayWanted 107 = .ok (.aload_n 0, 1) := by decide +kernel
theorem dX4_wayWanted_108 : decode cX4_wayWanted 108 = .ok (.getfield 24, 3) := by decide +kernel
theorem dX4_wayWanted_111 : decode cX4_wayWanted 111 = .ok (.iload_n 1, 1) := by decide +kernel
theorem dX4_wayWanted_112 : decode cX4_wayWanted 112 = .ok (.iaload, 1) := by decide +kernel
theorem dX4_wayWanted_113 : decode cX4_wayWanted 113 = .ok (.invokestatic 74, 3) := by decide +kernel
theorem dX4_wayWanted_116 : decode cX4_wayWanted 116 = .ok (.ireturn, 1) := by decide +kernel
theorem dX4_wayWanted_117 : decode cX4_wayWanted 117 = .ok (.iconst 4, 1) := by decide +kernel
theorem dX4_wayWanted_118 : decode cX4_wayWanted 118 = .ok (.ireturn, 1) := by decide +kernel
theorem dX4_wayWanted_119 : decode cX4_wayWanted 119 = .ok (.aload_n 0, 1) := by decide +kernel
theorem dX4_wayWanted_120 : decode cX4_wayWanted 120 = .ok (.getfield 55, 3) := by decide +kernel
theorem dX4_wayWanted_123 : decode cX4_wayWanted 123 = .ok (.ireturn, 1) := by decide +kernel
theorem dX4_wayOfFog_0 : decode cX4_wayOfFog 0 = .ok (.aload_n 0, 1) := by decide +kernel
theorem dX4_wayOfFog_1 : decode cX4_wayOfFog 1 = .ok (.getfield 52, 3) := by decide +kernel
theorem dX4_wayOfFog_4 : decode cX4_wayOfFog 4 = .ok (.iconst 2, 1) := by decide +kernel
theorem dX4_wayOfFog_5 : decode cX4_wayOfFog 5 = .ok (.irem, 1) := by decide +kernel
theorem dX4_wayOfFog_6 : decode cX4_wayOfFog 6 = .ok (.ifCond .ne 10, 3) := by decide +kernel
theorem dX4_wayOfFog_9 : decode cX4_wayOfFog 9 = .ok (.aload_n 0, 1) := by decide +kernel
theorem dX4_wayOfFog_10 : decode cX4_wayOfFog 10 = .ok (.getfield 55, 3) := by decide +kernel
theorem dX4_wayOfFog_13 : decode cX4_wayOfFog 13 = .ok (.goto 4, 3) := by decide +kernel
theorem dX4_wayOfFog_16 : decode cX4_wayOfFog 16 = .ok (.iconst 4, 1) := by decide +kernel
theorem dX4_wayOfFog_17 : decode cX4_wayOfFog 17 = .ok (.ireturn, 1) := by decide +kernel
theorem dX4_wets_0 : decode cX4_wets 0 = .ok (.aload_n 0, 1) := by decide +kernel
theorem dX4_wets_1 : decode cX4_wets 1 = .ok (.getfield 18, 3) := by decide +kernel
theorem dX4_wets_4 : decode cX4_wets 4 = .ok (.iload_n 1, 1) := by decide +kernel
theorem dX4_wets_5 : decode cX4_wets 5 = .ok (.iaload, 1) := by decide +kernel
theorem dX4_wets_6 : decode cX4_wets 6 = .ok (.tableswitch 101 1 5 #[34, 43, 45, 82, 93], 34) := by decide +kernel
theorem dX4_wets_40 : decode cX4_wets 40 = .ok (.iconst 1, 1) := by decide +kernel
theorem dX4_wets_41 : decode cX4_wets 41 = .ok (.aload_n 0, 1) := by decide +kernel
theorem dX4_wets_42 : decode cX4_wets 42 = .ok (.getfield 21, 3) := by decide +kernel
theorem dX4_wets_45 : decode cX4_wets 45 = .ok (.iload_n 1, 1) := by decide +kernel
theorem dX4_wets_46 : decode cX4_wets 46 = .ok (.iaload, 1) := by decide +kernel
theorem dX4_wets_47 : decode cX4_wets 47 = .ok (.iadd, 1) := by decide +kernel
theorem dX4_wets_48 : decode cX4_wets 48 = .ok (.ireturn, 1) := by decide +kernel
theorem dX4_wets_49 : decode cX4_wets 49 = .ok (.iconst 1, 1) := by decide +kernel
theorem dX4_wets_50 : decode cX4_wets 50 = .ok (.ireturn, 1) := by decide +kernel
theorem dX4_wets_51 : decode cX4_wets 51 = .ok (.aload_n 0, 1) := by decide +kernel
theorem dX4_wets_52 : decode cX4_wets 52 = .ok (.getfield 27, 3) := by decide +kernel
theorem dX4_wets_55 : decode cX4_wets 55 = .ok (.iload_n 1, 1) := by decide +kernel
theorem dX4_wets_56 : decode cX4_wets 56 = .ok (.iaload, 1) := by decide +kernel
theorem dX4_wets_57 : decode cX4_wets 57 = .ok (.aload_n 0, 1) := by decide +kernel
theorem dX4_wets_58 : decode cX4_wets 58 = .ok (.getfield 24, 3) := by decide +kernel
theorem dX4_wets_61 : decode cX4_wets 61 = .ok (.iload_n 1, 1) := by decide +kernel
theorem dX4_wets_62 : decode cX4_wets 62 = .ok (.iaload, 1) := by decide +kernel
theorem dX4_wets_63 : decode cX4_wets 63 = .ok (.if_icmp .ne 16, 3) := by decide +kernel
theorem dX4_wets_66 : decode cX4_wets 66 = .ok (.iconst 2, 1) := by decide +kernel
theorem dX4_wets_67 : decode cX4_wets 67 = .ok (.iconst 1, 1) := by decide +kernel
theorem dX4_wets_68 : decode cX4_wets 68 = .ok (.aload_n 0, 1) := by decide +kernel
theorem dX4_wets_69 : decode cX4_wets 69 = .ok (.getfield 21, 3) := by decide +kernel
theorem dX4_wets_72 : decode cX4_wets 72 = .ok (.iload_n 1, 1) := by decide +kernel
theorem dX4_wets_73 : decode cX4_wets 73 = .ok (.iaload, 1) := by decide +kernel
theorem dX4_wets_74 : decode cX4_wets 74 = .ok (.iadd, 1) := by decide +kernel
theorem dX4_wets_75 : decode cX4_wets 75 = .ok (.imul, 1) := by decide +kernel
theorem dX4_wets_76 : decode cX4_wets 76 = .ok (.goto 11, 3) := by decide +kernel
theorem dX4_wets_79 : decode cX4_wets 79 = .ok (.iconst 1, 1) := by decide +kernel
theorem dX4_wets_80 : decode cX4_wets 80 = .ok (.aload_n 0, 1) := by decide +kernel
theorem dX4_wets_81 : decode cX4_wets 81 = .ok (.getfield 21, 3) := by decide +kernel
theorem dX4_wets_84 : decode cX4_wets 84 = .ok (.iload_n 1, 1) := by decide +kernel
theorem dX4_wets_85 : decode cX4_wets 85 = .ok (.iaload, 1) := by decide +kernel
theorem dX4_wets_86 : decode cX4_wets 86 = .ok (.iadd, 1) := by decide +kernel
theorem dX4_wets_87 : decode cX4_wets 87 = .ok (.ireturn, 1) := by decide +kernel
theorem dX4_wets_88 : decode cX4_wets 88 = .ok (.iconst 1, 1) := by decide +kernel
theorem dX4_wets_89 : decode cX4_wets 89 = .ok (.aload_n 0, 1) := by decide +kernel
theorem dX4_wets_90 : decode cX4_wets 90 = .ok (.getfield 21, 3) := by decide +kernel
theorem dX4_wets_93 : decode cX4_wets 93 = .ok (.iload_n 1, 1) := by decide +kernel
theorem dX4_wets_94 : decode cX4_wets 94 = .ok (.iaload, 1) := by decide +kernel
theorem dX4_wets_95 : decode cX4_wets 95 = .ok (.iconst 3, 1) := by decide +kernel
theorem dX4_wets_96 : decode cX4_wets 96 = .ok (.idiv, 1) := by decide +kernel
theorem dX4_wets_97 : decode cX4_wets 97 = .ok (.iadd, 1) := by decide +kernel
theorem dX4_wets_98 : decode cX4_wets 98 = .ok (.ireturn, 1) := by decide +kernel
theorem dX4_wets_99 : decode cX4_wets 99 = .ok (.aload_n 0, 1) := by decide +kernel
theorem dX4_wets_100 : decode cX4_wets 100 = .ok (.getfield 21, 3) := by decide +kernel
theorem dX4_wets_103 : decode cX4_wets 103 = .ok (.iload_n 1, 1) := by decide +kernel
theorem dX4_wets_104 : decode cX4_wets 104 = .ok (.iaload, 1) := by decide +kernel
theorem dX4_wets_105 : decode cX4_wets 105 = .ok (.ineg, 1) := by decide +kernel
theorem dX4_wets_106 : decode cX4_wets 106 = .ok (.ireturn, 1) := by decide +kernel
theorem dX4_wets_107 : decode cX4_wets 107 = .ok (.iconst 0, 1) := by decide +kernel
theorem dX4_wets_108 : decode cX4_wets 108 = .ok (.ireturn, 1) := by decide +kernel
theorem dX4_takeStep_0 : decode cX4_takeStep 0 = .ok (.aload_n 0, 1) := by decide +kernel
theorem dX4_takeStep_1 : decode cX4_takeStep 1 = .ok (.invokevirtual 77, 3) := by decide +kernel
theorem dX4_takeStep_4 : decode cX4_takeStep 4 = .ok (.iconst 0, 1) := by decide +kernel
theorem dX4_takeStep_5 : decode cX4_takeStep 5 = .ok (.istore_n 1, 1) := by decide +kernel
theorem dX4_takeStep_6 : decode cX4_takeStep 6 = .ok (.iload_n 1, 1) := by decide +kernel
theorem dX4_takeStep_7 : decode cX4_takeStep 7 = .ok (.aload_n 0, 1) := by decide +kernel
theorem dX4_takeStep_8 : decode cX4_takeStep 8 = .ok (.getfield 49, 3) := by decide +kernel
theorem dX4_takeStep_11 : decode cX4_takeStep 11 = .ok (.if_icmp .ge 29, 3) := by decide +kernel
theorem dX4_takeStep_14 : decode cX4_takeStep 14 = .ok (.aload_n 0, 1) := by decide +kernel
theorem dX4_takeStep_15 : decode cX4_takeStep 15 = .ok (.getfield 27, 3) := by decide +kernel
theorem dX4_takeStep_18 : decode cX4_takeStep 18 = .ok (.iload_n 1, 1) := by decide +kernel
theorem dX4_takeStep_19 : decode cX4_takeStep 19 = .ok (.aload_n 0, 1) := by decide +kernel
theorem dX4_takeStep_20 : decode cX4_takeStep 20 = .ok (.getfield 27, 3) := by decide +kernel
theorem dX4_takeStep_23 : decode cX4_takeStep 23 = .ok (.iload_n 1, 1) := by decide +kernel
theorem dX4_takeStep_24 : decode cX4_takeStep 24 = .ok (.iaload, 1) := by decide +kernel
theorem dX4_takeStep_25 : decode cX4_takeStep 25 = .ok (.aload_n 0, 1) := by decide +kernel
theorem dX4_takeStep_26 : decode cX4_takeStep 26 = .ok (.iload_n 1, 1) := by decide +kernel
theorem dX4_takeStep_27 : decode cX4_takeStep 27 = .ok (.invokevirtual 80, 3) := by decide +kernel
theorem dX4_takeStep_30 : decode cX4_takeStep 30 = .ok (.invokestatic 66, 3) := by decide +kernel
theorem dX4_takeStep_33 : decode cX4_takeStep 33 = .ok (.iastore, 1) := by decide +kernel
theorem dX4_takeStep_34 : decode cX4_takeStep 34 = .ok (.iinc 1 1, 3) := by decide +kernel
theorem dX4_takeStep_37 : decode cX4_takeStep 37 = .ok (.goto (-31), 3) := by decide +kernel
theorem dX4_takeStep_40 : decode cX4_takeStep 40 = .ok (.iconst 0, 1) := by decide +kernel
theorem dX4_takeStep_41 : decode cX4_takeStep 41 = .ok (.istore_n 1, 1) := by decide +kernel
theorem dX4_takeStep_42 : decode cX4_takeStep 42 = .ok (.iload_n 1, 1) := by decide +kernel
theorem dX4_takeStep_43 : decode cX4_takeStep 43 = .ok (.aload_n 0, 1) := by decide +kernel
theorem dX4_takeStep_44 : decode cX4_takeStep 44 = .ok (.getfield 49, 3) := by decide +kernel
theorem dX4_takeStep_47 : decode cX4_takeStep 47 = .ok (.if_icmp .ge 42, 3) := by decide +kernel
theorem dX4_takeStep_50 : decode cX4_takeStep 50 = .ok (.aload_n 0, 1) := by decide +kernel
theorem dX4_takeStep_51 : decode cX4_takeStep 51 = .ok (.getfield 15, 3) := by decide +kernel
theorem dX4_takeStep_54 : decode cX4_takeStep 54 = .ok (.aload_n 0, 1) := by decide +kernel
theorem dX4_takeStep_55 : decode cX4_takeStep 55 = .ok (.getfield 27, 3) := by decide +kernel
theorem dX4_takeStep_58 : decode cX4_takeStep 58 = .ok (.iload_n 1, 1) := by decide +kernel
theorem dX4_takeStep_59 : decode cX4_takeStep 59 = .ok (.iaload, 1) := by decide +kernel
theorem dX4_takeStep_60 : decode cX4_takeStep 60 = .ok (.aload_n 0, 1) := by decide +kernel
theorem dX4_takeStep_61 : decode cX4_takeStep 61 = .ok (.getfield 15, 3) := by decide +kernel
theorem dX4_takeStep_64 : decode cX4_takeStep 64 = .ok (.aload_n 0, 1) := by decide +kernel
theorem dX4_takeStep_65 : decode cX4_takeStep 65 = .ok (.getfield 27, 3) := by decide +kernel
theorem dX4_takeStep_68 : decode cX4_takeStep 68 = .ok (.iload_n 1, 1) := by decide +kernel
theorem dX4_takeStep_69 : decode cX4_takeStep 69 = .ok (.iaload, 1) := by decide +kernel
theorem dX4_takeStep_70 : decode cX4_takeStep 70 = .ok (.iaload, 1) := by decide +kernel
theorem dX4_takeStep_71 : decode cX4_takeStep 71 = .ok (.aload_n 0, 1) := by decide +kernel
theorem dX4_takeStep_72 : decode cX4_takeStep 72 = .ok (.iload_n 1, 1) := by decide +kernel
theorem dX4_takeStep_73 : decode cX4_takeStep 73 = .ok (.invokevirtual 83, 3) := by decide +kernel
theorem dX4_takeStep_76 : decode cX4_takeStep 76 = .ok (.iadd, 1) := by decide +kernel
theorem dX4_takeStep_77 : decode cX4_takeStep 77 = .ok (.bipush 99, 2) := by decide +kernel
theorem dX4_takeStep_79 : decode cX4_takeStep 79 = .ok (.invokestatic 86, 3) := by decide +kernel
theorem dX4_takeStep_82 : decode cX4_takeStep 82 = .ok (.iastore, 1) := by decide +kernel
theorem dX4_takeStep_83 : decode cX4_takeStep 83 = .ok (.iinc 1 1, 3) := by decide +kernel
theorem dX4_takeStep_86 : decode cX4_takeStep 86 = .ok (.goto (-44), 3) := by decide +kernel
theorem dX4_takeStep_89 : decode cX4_takeStep 89 = .ok (.aload_n 0, 1) := by decide +kernel
theorem dX4_takeStep_90 : decode cX4_takeStep 90 = .ok (.dup, 1) := by decide +kernel
theorem dX4_takeStep_91 : decode cX4_takeStep 91 = .ok (.getfield 52, 3) := by decide +kernel
theorem dX4_takeStep_94 : decode cX4_takeStep 94 = .ok (.iconst 1, 1) := by decide +kernel
theorem dX4_takeStep_95 : decode cX4_takeStep 95 = .ok (.iadd, 1) := by decide +kernel
theorem dX4_takeStep_96 : decode cX4_takeStep 96 = .ok (.putfield 52, 3) := by decide +kernel
theorem dX4_takeStep_99 : decode cX4_takeStep 99 = .ok (.return_, 1) := by decide +kernel
theorem dX4_takeStepByDraws_0 : decode cX4_takeStepByDraws 0 = .ok (.aload_n 0, 1) := by decide +kernel
theorem dX4_takeStepByDraws_1 : decode cX4_takeStepByDraws 1 = .ok (.invokevirtual 89, 3) := by decide +kernel
theorem dX4_takeStepByDraws_4 : decode cX4_takeStepByDraws 4 = .ok (.bipush 100, 2) := by decide +kernel
theorem dX4_takeStepByDraws_6 : decode cX4_takeStepByDraws 6 = .ok (.irem, 1) := by decide +kernel
theorem dX4_takeStepByDraws_7 : decode cX4_takeStepByDraws 7 = .ok (.aload_n 0, 1) := by decide +kernel
theorem dX4_takeStepByDraws_8 : decode cX4_takeStepByDraws 8 = .ok (.getfield 9, 3) := by decide +kernel
theorem dX4_takeStepByDraws_11 : decode cX4_takeStepByDraws 11 = .ok (.iconst 3, 1) := by decide +kernel
theorem dX4_takeStepByDraws_12 : decode cX4_takeStepByDraws 12 = .ok (.iaload, 1) := by decide +kernel
theorem dX4_takeStepByDraws_13 : decode cX4_takeStepByDraws 13 = .ok (.if_icmp .ge 13, 3) := by decide +kernel
theorem dX4_takeStepByDraws_16 : decode cX4_takeStepByDraws 16 = .ok (.aload_n 0, 1) := by decide +kernel
theorem dX4_takeStepByDraws_17 : decode cX4_takeStepByDraws 17 = .ok (.aload_n 0, 1) := by decide +kernel
theorem dX4_takeStepByDraws_18 : decode cX4_takeStepByDraws 18 = .ok (.invokevirtual 89, 3) := by decide +kernel
theorem dX4_takeStepByDraws_21 : decode cX4_takeStepByDraws 21 = .ok (.iconst 4, 1) := by decide +kernel
theorem dX4_takeStepByDraws_22 : decode cX4_takeStepByDraws 22 = .ok (.irem, 1) := by decide +kernel
theorem dX4_takeStepByDraws_23 : decode cX4_takeStepByDraws 23 = .ok (.putfield 55, 3) := by decide +kernel
theorem dX4_takeStepByDraws_26 : decode cX4_takeStepByDraws 26 = .ok (.aload_n 0, 1) := by decide +kernel
theorem dX4_takeStepByDraws_27 : decode cX4_takeStepByDraws 27 = .ok (.invokevirtual 92, 3) := by decide +kernel
theorem dX4_takeStepByDraws_30 : decode cX4_takeStepByDraws 30 = .ok (.return_, 1) := by decide +kernel
theorem dX4_turnWind_0 : decode cX4_turnWind 0 = .ok (.aload_n 0, 1) := by decide +kernel
theorem dX4_turnWind_1 : decode cX4_turnWind 1 = .ok (.getfield 52, 3) := by decide +kernel
theorem dX4_turnWind_4 : decode cX4_turnWind 4 = .ok (.ifCond .le 38, 3) := by decide +kernel
theorem dX4_turnWind_7 : decode cX4_turnWind 7 = .ok (.aload_n 0, 1) := by decide +kernel
theorem dX4_turnWind_8 : decode cX4_turnWind 8 = .ok (.getfield 9, 3) := by decide +kernel
theorem dX4_turnWind_11 : decode cX4_turnWind 11 = .ok (.iconst 0, 1) := by decide +kernel
theorem dX4_turnWind_12 : decode cX4_turnWind 12 = .ok (.iaload, 1) := by decide +kernel
theorem dX4_turnWind_13 : decode cX4_turnWind 13 = .ok (.ifCond .le 29, 3) := by decide +kernel
theorem dX4_turnWind_16 : decode cX4_turnWind 16 = .ok (.aload_n 0, 1) := by decide +kernel
theorem dX4_turnWind_17 : decode cX4_turnWind 17 = .ok (.getfield 52, 3) := by decide +kernel
theorem dX4_turnWind_20 : decode cX4_turnWind 20 = .ok (.aload_n 0, 1) := by decide +kernel
theorem dX4_turnWind_21 : decode cX4_turnWind 21 = .ok (.getfield 9, 3) := by decide +kernel
theorem dX4_turnWind_24 : decode cX4_turnWind 24 = .ok (.iconst 0, 1) := by decide +kernel
theorem dX4_turnWind_25 : decode cX4_turnWind 25 = .ok (.iaload, 1) := by decide +kernel
theorem dX4_turnWind_26 : decode cX4_turnWind 26 = .ok (.irem, 1) := by decide +kernel
theorem dX4_turnWind_27 : decode cX4_turnWind 27 = .ok (.ifCond .ne 15, 3) := by decide +kernel
theorem dX4_turnWind_30 : decode cX4_turnWind 30 = .ok (.aload_n 0, 1) := by decide +kernel
theorem dX4_turnWind_31 : decode cX4_turnWind 31 = .ok (.aload_n 0, 1) := by decide +kernel
theorem dX4_turnWind_32 : decode cX4_turnWind 32 = .ok (.getfield 55, 3) := by decide +kernel
theorem dX4_turnWind_35 : decode cX4_turnWind 35 = .ok (.iconst 1, 1) := by decide +kernel
theorem dX4_turnWind_36 : decode cX4_turnWind 36 = .ok (.iadd, 1) := by decide +kernel
theorem dX4_turnWind_37 : decode cX4_turnWind 37 = .ok (.iconst 4, 1) := by decide +kernel
theorem dX4_turnWind_38 : decode cX4_turnWind 38 = .ok (.irem, 1) := by decide +kernel
theorem dX4_turnWind_39 : decode cX4_turnWind 39 = .ok (.putfield 55, 3) := by decide +kernel
theorem dX4_turnWind_42 : decode cX4_turnWind 42 = .ok (.return_, 1) := by decide +kernel
theorem dX4_draw_0 : decode cX4_draw 0 = .ok (.aload_n 0, 1) := by decide +kernel
theorem dX4_draw_1 : decode cX4_draw 1 = .ok (.aload_n 0, 1) := by decide +kernel
theorem dX4_draw_2 : decode cX4_draw 2 = .ok (.getfield 30, 3) := by decide +kernel
theorem dX4_draw_5 : decode cX4_draw 5 = .ok (.ldc 95, 2) := by decide +kernel
theorem dX4_draw_7 : decode cX4_draw 7 = .ok (.imul, 1) := by decide +kernel
theorem dX4_draw_8 : decode cX4_draw 8 = .ok (.sipush 12345, 3) := by decide +kernel
theorem dX4_draw_11 : decode cX4_draw 11 = .ok (.iadd, 1) := by decide +kernel
theorem dX4_draw_12 : decode cX4_draw 12 = .ok (.putfield 30, 3) := by decide +kernel
theorem dX4_draw_15 : decode cX4_draw 15 = .ok (.aload_n 0, 1) := by decide +kernel
theorem dX4_draw_16 : decode cX4_draw 16 = .ok (.getfield 30, 3) := by decide +kernel
theorem dX4_draw_19 : decode cX4_draw 19 = .ok (.bipush 16, 2) := by decide +kernel
theorem dX4_draw_21 : decode cX4_draw 21 = .ok (.iushr, 1) := by decide +kernel
theorem dX4_draw_22 : decode cX4_draw 22 = .ok (.ireturn, 1) := by decide +kernel
theorem dX4_walk_0 : decode cX4_walk 0 = .ok (.aload_n 3, 1) := by decide +kernel
theorem dX4_walk_1 : decode cX4_walk 1 = .ok (.iconst 0, 1) := by decide +kernel
theorem dX4_walk_2 : decode cX4_walk 2 = .ok (.aload_n 0, 1) := by decide +kernel
theorem dX4_walk_3 : decode cX4_walk 3 = .ok (.getfield 27, 3) := by decide +kernel
theorem dX4_walk_6 : decode cX4_walk 6 = .ok (.iload_n 1, 1) := by decide +kernel
theorem dX4_walk_7 : decode cX4_walk 7 = .ok (.iaload, 1) := by decide +kernel
theorem dX4_walk_8 : decode cX4_walk 8 = .ok (.iastore, 1) := by decide +kernel
theorem dX4_walk_9 : decode cX4_walk 9 = .ok (.iconst 1, 1) := by decide +kernel
theorem dX4_walk_10 : decode cX4_walk 10 = .ok (.istore 4, 2) := by decide +kernel
theorem dX4_walk_12 : decode cX4_walk 12 = .ok (.iload 4, 2) := by decide +kernel
theorem dX4_walk_14 : decode cX4_walk 14 = .ok (.iload_n 2, 1) := by decide +kernel
theorem dX4_walk_15 : decode cX4_walk 15 = .ok (.if_icmp .gt 60, 3) := by decide +kernel
theorem dX4_walk_18 : decode cX4_walk 18 = .ok (.iload 4, 2) := by decide +kernel
theorem dX4_walk_20 : decode cX4_walk 20 = .ok (.aload_n 3, 1) := by decide +kernel
theorem dX4_walk_21 : decode cX4_walk 21 = .ok (.arraylength, 1) := by decide +kernel
theorem dX4_walk_22 : decode cX4_walk 22 = .ok (.if_icmp .ge 53, 3) := by decide +kernel
theorem dX4_walk_25 : decode cX4_walk 25 = .ok (.aload_n 0, 1) := by decide +kernel
theorem dX4_walk_26 : decode cX4_walk 26 = .ok (.invokevirtual 77, 3) := by decide +kernel
theorem dX4_walk_29 : decode cX4_walk 29 = .ok (.aload_n 0, 1) := by decide +kernel
theorem dX4_walk_30 : decode cX4_walk 30 = .ok (.getfield 27, 3) := by decide +kernel
theorem dX4_walk_33 : decode cX4_walk 33 = .ok (.iload_n 1, 1) := by decide +kernel
theorem dX4_walk_34 : decode cX4_walk 34 = .ok (.aload_n 0, 1) := by decide +kernel
theorem dX4_walk_35 : decode cX4_walk 35 = .ok (.getfield 27, 3) := by decide +kernel
theorem dX4_walk_38 : decode cX4_walk 38 = .ok (.iload_n 1, 1) := by decide +kernel
theorem dX4_walk_39 : decode cX4_walk 39 = .ok (.iaload, 1) := by decide +kernel
theorem dX4_walk_40 : decode cX4_walk 40 = .ok (.aload_n 0, 1) := by decide +kernel
theorem dX4_walk_41 : decode cX4_walk 41 = .ok (.iload_n 1, 1) := by decide +kernel
theorem dX4_walk_42 : decode cX4_walk 42 = .ok (.invokevirtual 80, 3) := by decide +kernel
theorem dX4_walk_45 : decode cX4_walk 45 = .ok (.invokestatic 66, 3) := by decide +kernel
theorem dX4_walk_48 : decode cX4_walk 48 = .ok (.iastore, 1) := by decide +kernel
theorem dX4_walk_49 : decode cX4_walk 49 = .ok (.aload_n 0, 1) := by decide +kernel
theorem dX4_walk_50 : decode cX4_walk 50 = .ok (.dup, 1) := by decide +kernel
theorem dX4_walk_51 : decode cX4_walk 51 = .ok (.getfield 52, 3) := by decide +kernel
theorem dX4_walk_54 : decode cX4_walk 54 = .ok (.iconst 1, 1) := by decide +kernel
theorem dX4_walk_55 : decode cX4_walk 55 = .ok (.iadd, 1) := by decide +kernel
theorem dX4_walk_56 : decode cX4_walk 56 = .ok (.putfield 52, 3) := by decide +kernel
theorem dX4_walk_59 : decode cX4_walk 59 = .ok (.aload_n 3, 1) := by decide +kernel
theorem dX4_walk_60 : decode cX4_walk 60 = .ok (.iload 4, 2) := by decide +kernel
theorem dX4_walk_62 : decode cX4_walk 62 = .ok (.aload_n 0, 1) := by decide +kernel
theorem dX4_walk_63 : decode cX4_walk 63 = .ok (.getfield 27, 3) := by decide +kernel
theorem dX4_walk_66 : decode cX4_walk 66 = .ok (.iload_n 1, 1) := by decide +kernel
theorem dX4_walk_67 : decode cX4_walk 67 = .ok (.iaload, 1) := by decide +kernel
theorem dX4_walk_68 : decode cX4_walk 68 = .ok (.iastore, 1) := by decide +kernel
theorem dX4_walk_69 : decode cX4_walk 69 = .ok (.iinc 4 1, 3) := by decide +kernel
theorem dX4_walk_72 : decode cX4_walk 72 = .ok (.goto (-60), 3) := by decide +kernel
theorem dX4_walk_75 : decode cX4_walk 75 = .ok (.return_, 1) := by decide +kernel
theorem dX4_rowPart_0 : decode cX4_rowPart 0 = .ok (.iload_n 2, 1) := by decide +kernel
theorem dX4_rowPart_1 : decode cX4_rowPart 1 = .ok (.lookupswitch 46 #[(0, 27), (1, 34)], 27) := by decide +kernel
theorem dX4_rowPart_28 : decode cX4_rowPart 28 = .ok (.aload_n 0, 1) := by decide +kernel
theorem dX4_rowPart_29 : decode cX4_rowPart 29 = .ok (.getfield 27, 3) := by decide +kernel
theorem dX4_rowPart_32 : decode cX4_rowPart 32 = .ok (.iload_n 1, 1) := by decide +kernel
theorem dX4_rowPart_33 : decode cX4_rowPart 33 = .ok (.iaload, 1) := by decide +kernel
theorem dX4_rowPart_34 : decode cX4_rowPart 34 = .ok (.ireturn, 1) := by decide +kernel
theorem dX4_rowPart_35 : decode cX4_rowPart 35 = .ok (.aload_n 0, 1) := by decide +kernel
theorem dX4_rowPart_36 : decode cX4_rowPart 36 = .ok (.getfield 15, 3) := by decide +kernel
theorem dX4_rowPart_39 : decode cX4_rowPart 39 = .ok (.aload_n 0, 1) := by decide +kernel
theorem dX4_rowPart_40 : decode cX4_rowPart 40 = .ok (.getfield 27, 3) := by decide +kernel
theorem dX4_rowPart_43 : decode cX4_rowPart 43 = .ok (.iload_n 1, 1) := by decide +kernel
theorem dX4_rowPart_44 : decode cX4_rowPart 44 = .ok (.iaload, 1) := by decide +kernel
theorem dX4_rowPart_45 : decode cX4_rowPart 45 = .ok (.iaload, 1) := by decide +kernel
theorem dX4_rowPart_46 : decode cX4_rowPart 46 = .ok (.ireturn, 1) := by decide +kernel
theorem dX4_rowPart_47 : decode cX4_rowPart 47 = .ok (.aload_n 0, 1) := by decide +kernel
theorem dX4_rowPart_48 : decode cX4_rowPart 48 = .ok (.getfield 27, 3) := by decide +kernel
theorem dX4_rowPart_51 : decode cX4_rowPart 51 = .ok (.iload_n 1, 1) := by decide +kernel
theorem dX4_rowPart_52 : decode cX4_rowPart 52 = .ok (.iaload, 1) := by decide +kernel
theorem dX4_rowPart_53 : decode cX4_rowPart 53 = .ok (.aload_n 0, 1) := by decide +kernel
theorem dX4_rowPart_54 : decode cX4_rowPart 54 = .ok (.getfield 24, 3) := by decide +kernel
theorem dX4_rowPart_57 : decode cX4_rowPart 57 = .ok (.iload_n 1, 1) := by decide +kernel
theorem dX4_rowPart_58 : decode cX4_rowPart 58 = .ok (.iaload, 1) := by decide +kernel
theorem dX4_rowPart_59 : decode cX4_rowPart 59 = .ok (.invokestatic 96, 3) := by decide +kernel
theorem dX4_rowPart_62 : decode cX4_rowPart 62 = .ok (.ireturn, 1) := by decide +kernel
theorem dX4_standsOtherwise_0 : decode cX4_standsOtherwise 0 = .ok (.iconst 0, 1) := by decide +kernel
theorem dX4_standsOtherwise_1 : decode cX4_standsOtherwise 1 = .ok (.istore_n 2, 1) := by decide +kernel
theorem dX4_standsOtherwise_2 : decode cX4_standsOtherwise 2 = .ok (.iload_n 2, 1) := by decide +kernel
theorem dX4_standsOtherwise_3 : decode cX4_standsOtherwise 3 = .ok (.aload_n 0, 1) := by decide +kernel
theorem dX4_standsOtherwise_4 : decode cX4_standsOtherwise 4 = .ok (.getfield 49, 3) := by decide +kernel
theorem dX4_standsOtherwise_7 : decode cX4_standsOtherwise 7 = .ok (.if_icmp .ge 29, 3) := by decide +kernel
theorem dX4_standsOtherwise_10 : decode cX4_standsOtherwise 10 = .ok (.iload_n 2, 1) := by decide +kernel
theorem dX4_standsOtherwise_11 : decode cX4_standsOtherwise 11 = .ok (.aload_n 1, 1) := by decide +kernel
theorem dX4_standsOtherwise_12 : decode cX4_standsOtherwise 12 = .ok (.arraylength, 1) := by decide +kernel
theorem dX4_standsOtherwise_13 : decode cX4_standsOtherwise 13 = .ok (.if_icmp .ge 23, 3) := by decide +kernel
theorem dX4_standsOtherwise_16 : decode cX4_standsOtherwise 16 = .ok (.aload_n 0, 1) := by decide +kernel
theorem dX4_standsOtherwise_17 : decode cX4_standsOtherwise 17 = .ok (.getfield 27, 3) := by decide +kernel
theorem dX4_standsOtherwise_20 : decode cX4_standsOtherwise 20 = .ok (.iload_n 2, 1) := by decide +kernel
theorem dX4_standsOtherwise_21 : decode cX4_standsOtherwise 21 = .ok (.iaload, 1) := by decide +kernel
theorem dX4_standsOtherwise_22 : decode cX4_standsOtherwise 22 = .ok (.aload_n 1, 1) := by decide +kernel
theorem dX4_standsOtherwise_23 : decode cX4_standsOtherwise 23 = .ok (.iload_n 2, 1) := by decide +kernel
theorem dX4_standsOtherwise_24 : decode cX4_standsOtherwise 24 = .ok (.iaload, 1) := by decide +kernel
theorem dX4_standsOtherwise_25 : decode cX4_standsOtherwise 25 = .ok (.if_icmp .eq 5, 3) := by decide +kernel
theorem dX4_standsOtherwise_28 : decode cX4_standsOtherwise 28 = .ok (.iconst 1, 1) := by decide +kernel
theorem dX4_standsOtherwise_29 : decode cX4_standsOtherwise 29 = .ok (.ireturn, 1) := by decide +kernel
theorem dX4_standsOtherwise_30 : decode cX4_standsOtherwise 30 = .ok (.iinc 2 1, 3) := by decide +kernel
theorem dX4_standsOtherwise_33 : decode cX4_standsOtherwise 33 = .ok (.goto (-31), 3) := by decide +kernel
theorem dX4_standsOtherwise_36 : decode cX4_standsOtherwise 36 = .ok (.iconst 0, 1) := by decide +kernel
theorem dX4_standsOtherwise_37 : decode cX4_standsOtherwise 37 = .ok (.ireturn, 1) := by decide +kernel
theorem dX4_airsAt_0 : decode cX4_airsAt 0 = .ok (.iconst 0, 1) := by decide +kernel
theorem dX4_airsAt_1 : decode cX4_airsAt 1 = .ok (.istore_n 2, 1) := by decide +kernel
theorem dX4_airsAt_2 : decode cX4_airsAt 2 = .ok (.iconst 0, 1) := by decide +kernel
theorem dX4_airsAt_3 : decode cX4_airsAt 3 = .ok (.istore_n 3, 1) := by decide +kernel
theorem dX4_airsAt_4 : decode cX4_airsAt 4 = .ok (.iload_n 3, 1) := by decide +kernel
theorem dX4_airsAt_5 : decode cX4_airsAt 5 = .ok (.aload_n 0, 1) := by decide +kernel
theorem dX4_airsAt_6 : decode cX4_airsAt 6 = .ok (.getfield 49, 3) := by decide +kernel
theorem dX4_airsAt_9 : decode cX4_airsAt 9 = .ok (.if_icmp .ge 29, 3) := by decide +kernel
theorem dX4_airsAt_12 : decode cX4_airsAt 12 = .ok (.iload_n 2, 1) := by decide +kernel
theorem dX4_airsAt_13 : decode cX4_airsAt 13 = .ok (.aload_n 0, 1) := by decide +kernel
theorem dX4_airsAt_14 : decode cX4_airsAt 14 = .ok (.getfield 27, 3) := by decide +kernel
theorem dX4_airsAt_17 : decode cX4_airsAt 17 = .ok (.iload_n 3, 1) := by decide +kernel
theorem dX4_airsAt_18 : decode cX4_airsAt 18 = .ok (.iaload, 1) := by decide +kernel
theorem dX4_airsAt_19 : decode cX4_airsAt 19 = .ok (.iload_n 1, 1) := by decide +kernel
theorem dX4_airsAt_20 : decode cX4_airsAt 20 = .ok (.if_icmp .ne 9, 3) := by decide +kernel
theorem dX4_airsAt_23 : decode cX4_airsAt 23 = .ok (.iconst 1, 1) := by decide +kernel
theorem dX4_airsAt_24 : decode cX4_airsAt 24 = .ok (.iload_n 3, 1) := by decide +kernel
theorem dX4_airsAt_25 : decode cX4_airsAt 25 = .ok (.ishl, 1) := by decide +kernel
theorem dX4_airsAt_26 : decode cX4_airsAt 26 = .ok (.goto 4, 3) := by decide +kernel
theorem dX4_airsAt_29 : decode cX4_airsAt 29 = .ok (.iconst 0, 1) := by decide +kernel
theorem dX4_airsAt_30 : decode cX4_airsAt 30 = .ok (.ior, 1) := by decide +kernel
theorem dX4_airsAt_31 : decode cX4_airsAt 31 = .ok (.istore_n 2, 1) := by decide +kernel
theorem dX4_airsAt_32 : decode cX4_airsAt 32 = .ok (.iinc 3 1, 3) := by decide +kernel
theorem dX4_airsAt_35 : decode cX4_airsAt 35 = .ok (.goto (-31), 3) := by decide +kernel
theorem dX4_airsAt_38 : decode cX4_airsAt 38 = .ok (.iload_n 2, 1) := by decide +kernel
theorem dX4_airsAt_39 : decode cX4_airsAt 39 = .ok (.ireturn, 1) := by decide +kernel
theorem dX4_airsAtErrands_0 : decode cX4_airsAtErrands 0 = .ok (.iconst 0, 1) := by decide +kernel
theorem dX4_airsAtErrands_1 : decode cX4_airsAtErrands 1 = .ok (.istore_n 1, 1) := by decide +kernel
theorem dX4_airsAtErrands_2 : decode cX4_airsAtErrands 2 = .ok (.iconst 0, 1) := by decide +kernel
theorem dX4_airsAtErrands_3 : decode cX4_airsAtErrands 3 = .ok (.istore_n 2, 1) := by decide +kernel
theorem dX4_airsAtErrands_4 : decode cX4_airsAtErrands 4 = .ok (.iload_n 2, 1) := by decide +kernel
theorem dX4_airsAtErrands_5 : decode cX4_airsAtErrands 5 = .ok (.aload_n 0, 1) := by decide +kernel
theorem dX4_airsAtErrands_6 : decode cX4_airsAtErrands 6 = .ok (.getfield 49, 3) := by decide +kernel
theorem dX4_airsAtErrands_9 : decode cX4_airsAtErrands 9 = .ok (.if_icmp .ge 34, 3) := by decide +kernel
theorem dX4_airsAtErrands_12 : decode cX4_airsAtErrands 12 = .ok (.iload_n 1, 1) := by decide +kernel
theorem dX4_airsAtErrands_13 : decode cX4_airsAtErrands 13 = .ok (.aload_n 0, 1) := by decide +kernel
theorem dX4_airsAtErrands_14 : decode cX4_airsAtErrands 14 = .ok (.getfield 27, 3) := by decide +kernel
theorem dX4_airsAtErrands_17 : decode cX4_airsAtErrands 17 = .ok (.iload_n 2, 1) := by decide +kernel
theorem dX4_airsAtErrands_18 : decode cX4_airsAtErrands 18 = .ok (.iaload, 1) := by decide +kernel
theorem dX4_airsAtErrands_19 : decode cX4_airsAtErrands 19 = .ok (.aload_n 0, 1) := by decide +kernel
theorem dX4_airsAtErrands_20 : decode cX4_airsAtErrands 20 = .ok (.getfield 24, 3) := by decide +kernel
theorem dX4_airsAtErrands_23 : decode cX4_airsAtErrands 23 = .ok (.iload_n 2, 1) := by decide +kernel
theorem dX4_airsAtErrands_24 : decode cX4_airsAtErrands 24 = .ok (.iaload, 1) := by decide +kernel
theorem dX4_airsAtErrands_25 : decode cX4_airsAtErrands 25 = .ok (.if_icmp .ne 9, 3) := by decide +kernel
theorem dX4_airsAtErrands_28 : decode cX4_airsAtErrands 28 = .ok (.iconst 1, 1) := by decide +kernel
theorem dX4_airsAtErrands_29 : decode cX4_airsAtErrands 29 = .ok (.iload_n 2, 1) := by decide +kernel
theorem dX4_airsAtErrands_30 : decode cX4_airsAtErrands 30 = .ok (.ishl, 1) := by decide +kernel
theorem dX4_airsAtErrands_31 : decode cX4_airsAtErrands 31 = .ok (.goto 4, 3) := by decide +kernel
theorem dX4_airsAtErrands_34 : decode cX4_airsAtErrands 34 = .ok (.iconst 0, 1) := by decide +kernel
theorem dX4_airsAtErrands_35 : decode cX4_airsAtErrands 35 = .ok (.ior, 1) := by decide +kernel
theorem dX4_airsAtErrands_36 : decode cX4_airsAtErrands 36 = .ok (.istore_n 1, 1) := by decide +kernel
theorem dX4_airsAtErrands_37 : decode cX4_airsAtErrands 37 = .ok (.iinc 2 1, 3) := by decide +kernel
theorem dX4_airsAtErrands_40 : decode cX4_airsAtErrands 40 = .ok (.goto (-36), 3) := by decide +kernel
theorem dX4_airsAtErrands_43 : decode cX4_airsAtErrands 43 = .ok (.iload_n 1, 1) := by decide +kernel
theorem dX4_airsAtErrands_44 : decode cX4_airsAtErrands 44 = .ok (.ireturn, 1) := by decide +kernel
theorem dX4_housesWithAirs_0 : decode cX4_housesWithAirs 0 = .ok (.iconst 0, 1) := by decide +kernel
theorem dX4_housesWithAirs_1 : decode cX4_housesWithAirs 1 = .ok (.istore_n 1, 1) := by decide +kernel
theorem dX4_housesWithAirs_2 : decode cX4_housesWithAirs 2 = .ok (.iconst 0, 1) := by decide +kernel
theorem dX4_housesWithAirs_3 : decode cX4_housesWithAirs 3 = .ok (.istore_n 2, 1) := by decide +kernel
theorem dX4_housesWithAirs_4 : decode cX4_housesWithAirs 4 = .ok (.iload_n 2, 1) := by decide +kernel
theorem dX4_housesWithAirs_5 : decode cX4_housesWithAirs 5 = .ok (.aload_n 0, 1) := by decide +kernel
theorem dX4_housesWithAirs_6 : decode cX4_housesWithAirs 6 = .ok (.getfield 49, 3) := by decide +kernel
theorem dX4_housesWithAirs_9 : decode cX4_housesWithAirs 9 = .ok (.if_icmp .ge 20, 3) := by decide +kernel
theorem dX4_housesWithAirs_12 : decode cX4_housesWithAirs 12 = .ok (.iload_n 1, 1) := by decide +kernel
theorem dX4_housesWithAirs_13 : decode cX4_housesWithAirs 13 = .ok (.iconst 1, 1) := by decide +kernel
theorem dX4_housesWithAirs_14 : decode cX4_housesWithAirs 14 = .ok (.aload_n 0, 1) := by decide +kernel
theorem dX4_housesWithAirs_15 : decode cX4_housesWithAirs 15 = .ok (.getfield 27, 3) := by decide +kernel
theorem dX4_housesWithAirs_18 : decode cX4_housesWithAirs 18 = .ok (.iload_n 2, 1) := by decide +kernel
theorem dX4_housesWithAirs_19 : decode cX4_housesWithAirs 19 = .ok (.iaload, 1) := by decide +kernel
theorem dX4_housesWithAirs_20 : decode cX4_housesWithAirs 20 = .ok (.ishl, 1) := by decide +kernel
theorem dX4_housesWithAirs_21 : decode cX4_housesWithAirs 21 = .ok (.ior, 1) := by decide +kernel
theorem dX4_housesWithAirs_22 : decode cX4_housesWithAirs 22 = .ok (.istore_n 1, 1) := by decide +kernel
theorem dX4_housesWithAirs_23 : decode cX4_housesWithAirs 23 = .ok (.iinc 2 1, 3) := by decide +kernel
theorem dX4_housesWithAirs_26 : decode cX4_housesWithAirs 26 = .ok (.goto (-22), 3) := by decide +kernel
theorem dX4_housesWithAirs_29 : decode cX4_housesWithAirs 29 = .ok (.iload_n 1, 1) := by decide +kernel
theorem dX4_housesWithAirs_30 : decode cX4_housesWithAirs 30 = .ok (.ireturn, 1) := by decide +kernel
theorem dX4_housesWetBy_0 : decode cX4_housesWetBy 0 = .ok (.iconst 0, 1) := by decide +kernel
theorem dX4_housesWetBy_1 : decode cX4_housesWetBy 1 = .ok (.istore_n 2, 1) := by decide +kernel
theorem dX4_housesWetBy_2 : decode cX4_housesWetBy 2 = .ok (.iconst 0, 1) := by decide +kernel
theorem dX4_housesWetBy_3 : decode cX4_housesWetBy 3 = .ok (.istore_n 3, 1) := by decide +kernel
theorem dX4_housesWetBy_4 : decode cX4_housesWetBy 4 = .ok (.iload_n 3, 1) := by decide +kernel
theorem dX4_housesWetBy_5 : decode cX4_housesWetBy 5 = .ok (.bipush 16, 2) := by decide +kernel
theorem dX4_housesWetBy_7 : decode cX4_housesWetBy 7 = .ok (.if_icmp .ge 29, 3) := by decide +kernel
theorem dX4_housesWetBy_10 : decode cX4_housesWetBy 10 = .ok (.iload_n 2, 1) := by decide +kernel
theorem dX4_housesWetBy_11 : decode cX4_housesWetBy 11 = .ok (.aload_n 0, 1) := by decide +kernel
theorem dX4_housesWetBy_12 : decode cX4_housesWetBy 12 = .ok (.getfield 15, 3) := by decide +kernel
theorem dX4_housesWetBy_15 : decode cX4_housesWetBy 15 = .ok (.iload_n 3, 1) := by decide +kernel
theorem dX4_housesWetBy_16 : decode cX4_housesWetBy 16 = .ok (.iaload, 1) := by decide +kernel
theorem dX4_housesWetBy_17 : decode cX4_housesWetBy 17 = .ok (.iload_n 1, 1) := by decide +kernel
theorem dX4_housesWetBy_18 : decode cX4_housesWetBy 18 = .ok (.if_icmp .lt 9, 3) := by decide +kernel
theorem dX4_housesWetBy_21 : decode cX4_housesWetBy 21 = .ok (.iconst 1, 1) := by decide +kernel
theorem dX4_housesWetBy_22 : decode cX4_housesWetBy 22 = .ok (.iload_n 3, 1) := by decide +kernel
theorem dX4_housesWetBy_23 : decode cX4_housesWetBy 23 = .ok (.ishl, 1) := by decide +kernel
theorem dX4_housesWetBy_24 : decode cX4_housesWetBy 24 = .ok (.goto 4, 3) := by decide +kernel
theorem dX4_housesWetBy_27 : decode cX4_housesWetBy 27 = .ok (.iconst 0, 1) := by decide +kernel
theorem dX4_housesWetBy_28 : decode cX4_housesWetBy 28 = .ok (.ior, 1) := by decide +kernel
theorem dX4_housesWetBy_29 : decode cX4_housesWetBy 29 = .ok (.istore_n 2, 1) := by decide +kernel
theorem dX4_housesWetBy_30 : decode cX4_housesWetBy 30 = .ok (.iinc 3 1, 3) := by decide +kernel
theorem dX4_housesWetBy_33 : decode cX4_housesWetBy 33 = .ok (.goto (-29), 3) := by decide +kernel
theorem dX4_housesWetBy_36 : decode cX4_housesWetBy 36 = .ok (.iload_n 2, 1) := by decide +kernel
theorem dX4_housesWetBy_37 : decode cX4_housesWetBy 37 = .ok (.ireturn, 1) := by decide +kernel
theorem dX4_wetTogether_0 : decode cX4_wetTogether 0 = .ok (.iconst 0, 1) := by decide +kernel
theorem dX4_wetTogether_1 : decode cX4_wetTogether 1 = .ok (.istore_n 1, 1) := by decide +kernel
theorem dX4_wetTogether_2 : decode cX4_wetTogether 2 = .ok (.iconst 0, 1) := by decide +kernel
theorem dX4_wetTogether_3 : decode cX4_wetTogether 3 = .ok (.istore_n 2, 1) := by decide +kernel
theorem dX4_wetTogether_4 : decode cX4_wetTogether 4 = .ok (.iload_n 2, 1) := by decide +kernel
theorem dX4_wetTogether_5 : decode cX4_wetTogether 5 = .ok (.bipush 16, 2) := by decide +kernel
theorem dX4_wetTogether_7 : decode cX4_wetTogether 7 = .ok (.if_icmp .ge 18, 3) := by decide +kernel
theorem dX4_wetTogether_10 : decode cX4_wetTogether 10 = .ok (.iload_n 1, 1) := by decide +kernel
theorem dX4_wetTogether_11 : decode cX4_wetTogether 11 = .ok (.aload_n 0, 1) := by decide +kernel
theorem dX4_wetTogether_12 : decode cX4_wetTogether 12 = .ok (.getfield 15, 3) := by decide +kernel
theorem dX4_wetTogether_15 : decode cX4_wetTogether 15 = .ok (.iload_n 2, 1) := by decide +kernel
theorem dX4_wetTogether_16 : decode cX4_wetTogether 16 = .ok (.iaload, 1) := by decide +kernel
theorem dX4_wetTogether_17 : decode cX4_wetTogether 17 = .ok (.iadd, 1) := by decide +kernel
theorem dX4_wetTogether_18 : decode cX4_wetTogether 18 = .ok (.istore_n 1, 1) := by decide +kernel
theorem dX4_wetTogether_19 : decode cX4_wetTogether 19 = .ok (.iinc 2 1, 3) := by decide +kernel
theorem dX4_wetTogether_22 : decode cX4_wetTogether 22 = .ok (.goto (-18), 3) := by decide +kernel
theorem dX4_wetTogether_25 : decode cX4_wetTogether 25 = .ok (.iload_n 1, 1) := by decide +kernel
theorem dX4_wetTogether_26 : decode cX4_wetTogether 26 = .ok (.ireturn, 1) := by decide +kernel
theorem dJ0_length_8abf5_0 : decode cJ0_length_8abf5 0 = .ok (.aload_n 0, 1) := by decide +kernel
theorem dJ0_length_8abf5_1 : decode cJ0_length_8abf5 1 = .ok (.getfield 9, 3) := by decide +kernel
theorem dJ0_length_8abf5_4 : decode cJ0_length_8abf5 4 = .ok (.arraylength, 1) := by decide +kernel
theorem dJ0_length_8abf5_5 : decode cJ0_length_8abf5 5 = .ok (.aload_n 0, 1) := by decide +kernel
theorem dJ0_length_8abf5_6 : decode cJ0_length_8abf5 6 = .ok (.invokevirtual 335, 3) := by decide +kernel
theorem dJ0_length_8abf5_9 : decode cJ0_length_8abf5 9 = .ok (.ishr, 1) := by decide +kernel
theorem dJ0_length_8abf5_10 : decode cJ0_length_8abf5 10 = .ok (.ireturn, 1) := by decide +kernel
theorem dJ0_charAt_5068e_0 : decode cJ0_charAt_5068e 0 = .ok (.aload_n 0, 1) := by decide +kernel
theorem dJ0_charAt_5068e_1 : decode cJ0_charAt_5068e 1 = .ok (.invokevirtual 492, 3) := by decide +kernel
theorem dJ0_charAt_5068e_4 : decode cJ0_charAt_5068e 4 = .ok (.ifCond .eq 12, 3) := by decide +kernel
theorem dJ0_charAt_5068e_7 : decode cJ0_charAt_5068e 7 = .ok (.aload_n 0, 1) := by decide +kernel
theorem dJ0_charAt_5068e_8 : decode cJ0_charAt_5068e 8 = .ok (.getfield 9, 3) := by decide +kernel
theorem dJ0_charAt_5068e_11 : decode cJ0_charAt_5068e 11 = .ok (.iload_n 1, 1) := by decide +kernel
theorem dJ0_charAt_5068e_12 : decode cJ0_charAt_5068e 12 = .ok (.invokestatic 495, 3) := by decide +kernel
theorem dJ0_charAt_5068e_15 : decode cJ0_charAt_5068e 15 = .ok (.ireturn, 1) := by decide +kernel
theorem dJ0_charAt_5068e_16 : decode cJ0_charAt_5068e 16 = .ok (.aload_n 0, 1) := by decide +kernel
theorem dJ0_charAt_5068e_17 : decode cJ0_charAt_5068e 17 = .ok (.getfield 9, 3) := by decide +kernel
theorem dJ0_charAt_5068e_20 : decode cJ0_charAt_5068e 20 = .ok (.iload_n 1, 1) := by decide +kernel
theorem dJ0_charAt_5068e_21 : decode cJ0_charAt_5068e 21 = .ok (.invokestatic 498, 3) := by decide +kernel
theorem dJ0_charAt_5068e_24 : decode cJ0_charAt_5068e 24 = .ok (.ireturn, 1) := by decide +kernel
theorem dJ0_coder_7d493_0 : decode cJ0_coder_7d493 0 = .ok (.getstatic 38, 3) := by decide +kernel
theorem dJ0_coder_7d493_3 : decode cJ0_coder_7d493 3 = .ok (.ifCond .eq 10, 3) := by decide +kernel
theorem dJ0_coder_7d493_6 : decode cJ0_coder_7d493 6 = .ok (.aload_n 0, 1) := by decide +kernel
theorem dJ0_coder_7d493_7 : decode cJ0_coder_7d493 7 = .ok (.getfield 15, 3) := by decide +kernel
theorem dJ0_coder_7d493_10 : decode cJ0_coder_7d493 10 = .ok (.goto 4, 3) := by decide +kernel
theorem dJ0_coder_7d493_13 : decode cJ0_coder_7d493 13 = .ok (.iconst 1, 1) := by decide +kernel
theorem dJ0_coder_7d493_14 : decode cJ0_coder_7d493 14 = .ok (.ireturn, 1) := by decide +kernel
theorem dJ0_isLatin1_aae02_0 : decode cJ0_isLatin1_aae02 0 = .ok (.getstatic 38, 3) := by decide +kernel
theorem dJ0_isLatin1_aae02_3 : decode cJ0_isLatin1_aae02 3 = .ok (.ifCond .eq 14, 3) := by decide +kernel
theorem dJ0_isLatin1_aae02_6 : decode cJ0_isLatin1_aae02 6 = .ok (.aload_n 0, 1) := by decide +kernel
theorem dJ0_isLatin1_aae02_7 : decode cJ0_isLatin1_aae02 7 = .ok (.getfield 15, 3) := by decide +kernel
theorem dJ0_isLatin1_aae02_10 : decode cJ0_isLatin1_aae02 10 = .ok (.ifCond .ne 7, 3) := by decide +kernel
theorem dJ0_isLatin1_aae02_13 : decode cJ0_isLatin1_aae02 13 = .ok (.iconst 1, 1) := by decide +kernel
theorem dJ0_isLatin1_aae02_14 : decode cJ0_isLatin1_aae02 14 = .ok (.goto 4, 3) := by decide +kernel
theorem dJ0_isLatin1_aae02_17 : decode cJ0_isLatin1_aae02 17 = .ok (.iconst 0, 1) := by decide +kernel
theorem dJ0_isLatin1_aae02_18 : decode cJ0_isLatin1_aae02 18 = .ok (.ireturn, 1) := by decide +kernel
theorem dJ0_checkIndex_df160_0 : decode cJ0_checkIndex_df160 0 = .ok (.iload_n 0, 1) := by decide +kernel
theorem dJ0_checkIndex_df160_1 : decode cJ0_checkIndex_df160 1 = .ok (.iload_n 1, 1) := by decide +kernel
theorem dJ0_checkIndex_df160_2 : decode cJ0_checkIndex_df160 2 = .ok (.getstatic 1053, 3) := by decide +kernel
theorem dJ0_checkIndex_df160_5 : decode cJ0_checkIndex_df160 5 = .ok (.invokestatic 1059, 3) := by decide +kernel
theorem dJ0_checkIndex_df160_8 : decode cJ0_checkIndex_df160 8 = .ok (.pop, 1) := by decide +kernel
theorem dJ0_checkIndex_df160_9 : decode cJ0_checkIndex_df160 9 = .ok (.return_, 1) := by decide +kernel
theorem dJ1_charAt_3b067_0 : decode cJ1_charAt_3b067 0 = .ok (.iload_n 1, 1) := by decide +kernel
theorem dJ1_charAt_3b067_1 : decode cJ1_charAt_3b067 1 = .ok (.aload_n 0, 1) := by decide +kernel
theorem dJ1_charAt_3b067_2 : decode cJ1_charAt_3b067 2 = .ok (.arraylength, 1) := by decide +kernel
theorem dJ1_charAt_3b067_3 : decode cJ1_charAt_3b067 3 = .ok (.invokestatic 9, 3) := by decide +kernel
theorem dJ1_charAt_3b067_6 : decode cJ1_charAt_3b067 6 = .ok (.aload_n 0, 1) := by decide +kernel
theorem dJ1_charAt_3b067_7 : decode cJ1_charAt_3b067 7 = .ok (.iload_n 1, 1) := by decide +kernel
theorem dJ1_charAt_3b067_8 : decode cJ1_charAt_3b067 8 = .ok (.baload, 1) := by decide +kernel
theorem dJ1_charAt_3b067_9 : decode cJ1_charAt_3b067 9 = .ok (.sipush 255, 3) := by decide +kernel
theorem dJ1_charAt_3b067_12 : decode cJ1_charAt_3b067 12 = .ok (.iand, 1) := by decide +kernel
theorem dJ1_charAt_3b067_13 : decode cJ1_charAt_3b067 13 = .ok (.i2c, 1) := by decide +kernel
theorem dJ1_charAt_3b067_14 : decode cJ1_charAt_3b067 14 = .ok (.ireturn, 1) := by decide +kernel
theorem dJ2_getChar_3b067_0 : decode cJ2_getChar_3b067 0 = .ok (.getstatic 44, 3) := by decide +kernel
theorem dJ2_getChar_3b067_3 : decode cJ2_getChar_3b067 3 = .ok (.ifCond .ne 25, 3) := by decide +kernel
theorem dJ2_getChar_3b067_6 : decode cJ2_getChar_3b067 6 = .ok (.iload_n 1, 1) := by decide +kernel
theorem dJ2_getChar_3b067_7 : decode cJ2_getChar_3b067 7 = .ok (.ifCond .lt 11, 3) := by decide +kernel
theorem dJ2_getChar_3b067_10 : decode cJ2_getChar_3b067 10 = .ok (.iload_n 1, 1) := by decide +kernel
theorem dJ2_getChar_3b067_11 : decode cJ2_getChar_3b067 11 = .ok (.aload_n 0, 1) := by decide +kernel
theorem dJ2_getChar_3b067_12 : decode cJ2_getChar_3b067 12 = .ok (.invokestatic 48, 3) := by decide +kernel
theorem dJ2_getChar_3b067_15 : decode cJ2_getChar_3b067 15 = .ok (.if_icmp .lt 13, 3) := by decide +kernel
theorem dJ2_getChar_3b067_18 : decode cJ2_getChar_3b067 18 = .ok (.new 52, 3) := by decide +kernel
theorem dJ2_getChar_3b067_21 : decode cJ2_getChar_3b067 21 = .ok (.dup, 1) := by decide +kernel
theorem dJ2_getChar_3b067_22 : decode cJ2_getChar_3b067 22 = .ok (.ldc 54, 2) := by decide +kernel
theorem dJ2_getChar_3b067_24 : decode cJ2_getChar_3b067 24 = .ok (.invokespecial 56, 3) := by decide +kernel
theorem dJ2_getChar_3b067_27 : decode cJ2_getChar_3b067 27 = .ok (.athrow, 1) := by decide +kernel
theorem dJ2_getChar_3b067_28 : decode cJ2_getChar_3b067 28 = .ok (.iload_n 1, 1) := by decide +kernel
theorem dJ2_getChar_3b067_29 : decode cJ2_getChar_3b067 29 = .ok (.iconst 1, 1) := by decide +kernel
theorem dJ2_getChar_3b067_30 : decode cJ2_getChar_3b067 30 = .ok (.ishl, 1) := by decide +kernel
theorem dJ2_getChar_3b067_31 : decode cJ2_getChar_3b067 31 = .ok (.istore_n 1, 1) := by decide +kernel
theorem dJ2_getChar_3b067_32 : decode cJ2_getChar_3b067 32 = .ok (.aload_n 0, 1) := by decide +kernel
theorem dJ2_getChar_3b067_33 : decode cJ2_getChar_3b067 33 = .ok (.iload_n 1, 1) := by decide +kernel
theorem dJ2_getChar_3b067_34 : decode cJ2_getChar_3b067 34 = .ok (.iinc 1 1, 3) := by decide +kernel
theorem dJ2_getChar_3b067_37 : decode cJ2_getChar_3b067 37 = .ok (.baload, 1) := by decide +kernel
theorem dJ2_getChar_3b067_38 : decode cJ2_getChar_3b067 38 = .ok (.sipush 255, 3) := by decide +kernel
theorem dJ2_getChar_3b067_41 : decode cJ2_getChar_3b067 41 = .ok (.iand, 1) := by decide +kernel
theorem dJ2_getChar_3b067_42 : decode cJ2_getChar_3b067 42 = .ok (.getstatic 59, 3) := by decide +kernel
theorem dJ2_getChar_3b067_45 : decode cJ2_getChar_3b067 45 = .ok (.ishl, 1) := by decide +kernel
theorem dJ2_getChar_3b067_46 : decode cJ2_getChar_3b067 46 = .ok (.aload_n 0, 1) := by decide +kernel
theorem dJ2_getChar_3b067_47 : decode cJ2_getChar_3b067 47 = .ok (.iload_n 1, 1) := by decide +kernel
theorem dJ2_getChar_3b067_48 : decode cJ2_getChar_3b067 48 = .ok (.baload, 1) := by decide +kernel
theorem dJ2_getChar_3b067_49 : decode cJ2_getChar_3b067 49 = .ok (.sipush 255, 3) := by decide +kernel
theorem dJ2_getChar_3b067_52 : decode cJ2_getChar_3b067 52 = .ok (.iand, 1) := by decide +kernel
theorem dJ2_getChar_3b067_53 : decode cJ2_getChar_3b067 53 = .ok (.getstatic 63, 3) := by decide +kernel
theorem dJ2_getChar_3b067_56 : decode cJ2_getChar_3b067 56 = .ok (.ishl, 1) := by decide +kernel
theorem dJ2_getChar_3b067_57 : decode cJ2_getChar_3b067 57 = .ok (.ior, 1) := by decide +kernel
theorem dJ2_getChar_3b067_58 : decode cJ2_getChar_3b067 58 = .ok (.i2c, 1) := by decide +kernel
theorem dJ2_getChar_3b067_59 : decode cJ2_getChar_3b067 59 = .ok (.ireturn, 1) := by decide +kernel
theorem dJ2_length_9d52b_0 : decode cJ2_length_9d52b 0 = .ok (.aload_n 0, 1) := by decide +kernel
theorem dJ2_length_9d52b_1 : decode cJ2_length_9d52b 1 = .ok (.arraylength, 1) := by decide +kernel
theorem dJ2_length_9d52b_2 : decode cJ2_length_9d52b 2 = .ok (.iconst 1, 1) := by decide +kernel
theorem dJ2_length_9d52b_3 : decode cJ2_length_9d52b 3 = .ok (.ishr, 1) := by decide +kernel
theorem dJ2_length_9d52b_4 : decode cJ2_length_9d52b 4 = .ok (.ireturn, 1) := by decide +kernel
theorem dJ2_charAt_3b067_0 : decode cJ2_charAt_3b067 0 = .ok (.iload_n 1, 1) := by decide +kernel
theorem dJ2_charAt_3b067_1 : decode cJ2_charAt_3b067 1 = .ok (.aload_n 0, 1) := by decide +kernel
theorem dJ2_charAt_3b067_2 : decode cJ2_charAt_3b067 2 = .ok (.invokestatic 67, 3) := by decide +kernel
theorem dJ2_charAt_3b067_5 : decode cJ2_charAt_3b067 5 = .ok (.aload_n 0, 1) := by decide +kernel
theorem dJ2_charAt_3b067_6 : decode cJ2_charAt_3b067 6 = .ok (.iload_n 1, 1) := by decide +kernel
theorem dJ2_charAt_3b067_7 : decode cJ2_charAt_3b067 7 = .ok (.invokestatic 71, 3) := by decide +kernel
theorem dJ2_charAt_3b067_10 : decode cJ2_charAt_3b067 10 = .ok (.ireturn, 1) := by decide +kernel
theorem dJ2_checkIndex_2214a_0 : decode cJ2_checkIndex_2214a 0 = .ok (.iload_n 0, 1) := by decide +kernel
theorem dJ2_checkIndex_2214a_1 : decode cJ2_checkIndex_2214a 1 = .ok (.aload_n 1, 1) := by decide +kernel
theorem dJ2_checkIndex_2214a_2 : decode cJ2_checkIndex_2214a 2 = .ok (.invokestatic 48, 3) := by decide +kernel
theorem dJ2_checkIndex_2214a_5 : decode cJ2_checkIndex_2214a 5 = .ok (.invokestatic 414, 3) := by decide +kernel
theorem dJ2_checkIndex_2214a_8 : decode cJ2_checkIndex_2214a 8 = .ok (.return_, 1) := by decide +kernel
theorem dJ3_checkIndex_8e157_0 : decode cJ3_checkIndex_8e157 0 = .ok (.iload_n 0, 1) := by decide +kernel
theorem dJ3_checkIndex_8e157_1 : decode cJ3_checkIndex_8e157 1 = .ok (.ifCond .lt 8, 3) := by decide +kernel
theorem dJ3_checkIndex_8e157_4 : decode cJ3_checkIndex_8e157 4 = .ok (.iload_n 0, 1) := by decide +kernel
theorem dJ3_checkIndex_8e157_5 : decode cJ3_checkIndex_8e157 5 = .ok (.iload_n 1, 1) := by decide +kernel
theorem dJ3_checkIndex_8e157_6 : decode cJ3_checkIndex_8e157 6 = .ok (.if_icmp .lt 10, 3) := by decide +kernel
theorem dJ3_checkIndex_8e157_9 : decode cJ3_checkIndex_8e157 9 = .ok (.aload_n 2, 1) := by decide +kernel
theorem dJ3_checkIndex_8e157_10 : decode cJ3_checkIndex_8e157 10 = .ok (.iload_n 0, 1) := by decide +kernel
theorem dJ3_checkIndex_8e157_11 : decode cJ3_checkIndex_8e157 11 = .ok (.iload_n 1, 1) := by decide +kernel
theorem dJ3_checkIndex_8e157_12 : decode cJ3_checkIndex_8e157 12 = .ok (.invokestatic 95, 3) := by decide +kernel
theorem dJ3_checkIndex_8e157_15 : decode cJ3_checkIndex_8e157 15 = .ok (.athrow, 1) := by decide +kernel
theorem dJ3_checkIndex_8e157_16 : decode cJ3_checkIndex_8e157 16 = .ok (.iload_n 0, 1) := by decide +kernel
theorem dJ3_checkIndex_8e157_17 : decode cJ3_checkIndex_8e157 17 = .ok (.ireturn, 1) := by decide +kernel
theorem dJ6_bitCount_0f7a4_0 : decode cJ6_bitCount_0f7a4 0 = .ok (.iload_n 0, 1) := by decide +kernel
theorem dJ6_bitCount_0f7a4_1 : decode cJ6_bitCount_0f7a4 1 = .ok (.iload_n 0, 1) := by decide +kernel
theorem dJ6_bitCount_0f7a4_2 : decode cJ6_bitCount_0f7a4 2 = .ok (.iconst 1, 1) := by decide +kernel
theorem dJ6_bitCount_0f7a4_3 : decode cJ6_bitCount_0f7a4 3 = .ok (.iushr, 1) := by decide +kernel
theorem dJ6_bitCount_0f7a4_4 : decode cJ6_bitCount_0f7a4 4 = .ok (.ldc_w 265, 3) := by decide +kernel
theorem dJ6_bitCount_0f7a4_7 : decode cJ6_bitCount_0f7a4 7 = .ok (.iand, 1) := by decide +kernel
theorem dJ6_bitCount_0f7a4_8 : decode cJ6_bitCount_0f7a4 8 = .ok (.isub, 1) := by decide +kernel
theorem dJ6_bitCount_0f7a4_9 : decode cJ6_bitCount_0f7a4 9 = .ok (.istore_n 0, 1) := by decide +kernel
theorem dJ6_bitCount_0f7a4_10 : decode cJ6_bitCount_0f7a4 10 = .ok (.iload_n 0, 1) := by decide +kernel
theorem dJ6_bitCount_0f7a4_11 : decode cJ6_bitCount_0f7a4 11 = .ok (.ldc_w 266, 3) := by decide +kernel
theorem dJ6_bitCount_0f7a4_14 : decode cJ6_bitCount_0f7a4 14 = .ok (.iand, 1) := by decide +kernel
theorem dJ6_bitCount_0f7a4_15 : decode cJ6_bitCount_0f7a4 15 = .ok (.iload_n 0, 1) := by decide +kernel
theorem dJ6_bitCount_0f7a4_16 : decode cJ6_bitCount_0f7a4 16 = .ok (.iconst 2, 1) := by decide +kernel
theorem dJ6_bitCount_0f7a4_17 : decode cJ6_bitCount_0f7a4 17 = .ok (.iushr, 1) := by decide +kernel
theorem dJ6_bitCount_0f7a4_18 : decode cJ6_bitCount_0f7a4 18 = .ok (.ldc_w 266, 3) := by decide +kernel
theorem dJ6_bitCount_0f7a4_21 : decode cJ6_bitCount_0f7a4 21 = .ok (.iand, 1) := by decide +kernel
theorem dJ6_bitCount_0f7a4_22 : decode cJ6_bitCount_0f7a4 22 = .ok (.iadd, 1) := by decide +kernel
theorem dJ6_bitCount_0f7a4_23 : decode cJ6_bitCount_0f7a4 23 = .ok (.istore_n 0, 1) := by decide +kernel
theorem dJ6_bitCount_0f7a4_24 : decode cJ6_bitCount_0f7a4 24 = .ok (.iload_n 0, 1) := by decide +kernel
theorem dJ6_bitCount_0f7a4_25 : decode cJ6_bitCount_0f7a4 25 = .ok (.iload_n 0, 1) := by decide +kernel
theorem dJ6_bitCount_0f7a4_26 : decode cJ6_bitCount_0f7a4 26 = .ok (.iconst 4, 1) := by decide +kernel
theorem dJ6_bitCount_0f7a4_27 : decode cJ6_bitCount_0f7a4 27 = .ok (.iushr, 1) := by decide +kernel
theorem dJ6_bitCount_0f7a4_28 : decode cJ6_bitCount_0f7a4 28 = .ok (.iadd, 1) := by decide +kernel
theorem dJ6_bitCount_0f7a4_29 : decode cJ6_bitCount_0f7a4 29 = .ok (.ldc_w 267, 3) := by decide +kernel
theorem dJ6_bitCount_0f7a4_32 : decode cJ6_bitCount_0f7a4 32 = .ok (.iand, 1) := by decide +kernel
theorem dJ6_bitCount_0f7a4_33 : decode cJ6_bitCount_0f7a4 33 = .ok (.istore_n 0, 1) := by decide +kernel
theorem dJ6_bitCount_0f7a4_34 : decode cJ6_bitCount_0f7a4 34 = .ok (.iload_n 0, 1) := by decide +kernel
theorem dJ6_bitCount_0f7a4_35 : decode cJ6_bitCount_0f7a4 35 = .ok (.iload_n 0, 1) := by decide +kernel
theorem dJ6_bitCount_0f7a4_36 : decode cJ6_bitCount_0f7a4 36 = .ok (.bipush 8, 2) := by decide +kernel
theorem dJ6_bitCount_0f7a4_38 : decode cJ6_bitCount_0f7a4 38 = .ok (.iushr, 1) := by decide +kernel
theorem dJ6_bitCount_0f7a4_39 : decode cJ6_bitCount_0f7a4 39 = .ok (.iadd, 1) := by decide +kernel
theorem dJ6_bitCount_0f7a4_40 : decode cJ6_bitCount_0f7a4 40 = .ok (.istore_n 0, 1) := by decide +kernel
theorem dJ6_bitCount_0f7a4_41 : decode cJ6_bitCount_0f7a4 41 = .ok (.iload_n 0, 1) := by decide +kernel
theorem dJ6_bitCount_0f7a4_42 : decode cJ6_bitCount_0f7a4 42 = .ok (.iload_n 0, 1) := by decide +kernel
theorem dJ6_bitCount_0f7a4_43 : decode cJ6_bitCount_0f7a4 43 = .ok (.bipush 16, 2) := by decide +kernel
theorem dJ6_bitCount_0f7a4_45 : decode cJ6_bitCount_0f7a4 45 = .ok (.iushr, 1) := by decide +kernel
theorem dJ6_bitCount_0f7a4_46 : decode cJ6_bitCount_0f7a4 46 = .ok (.iadd, 1) := by decide +kernel
theorem dJ6_bitCount_0f7a4_47 : decode cJ6_bitCount_0f7a4 47 = .ok (.istore_n 0, 1) := by decide +kernel
theorem dJ6_bitCount_0f7a4_48 : decode cJ6_bitCount_0f7a4 48 = .ok (.iload_n 0, 1) := by decide +kernel
theorem dJ6_bitCount_0f7a4_49 : decode cJ6_bitCount_0f7a4 49 = .ok (.bipush 63, 2) := by decide +kernel
theorem dJ6_bitCount_0f7a4_51 : decode cJ6_bitCount_0f7a4 51 = .ok (.iand, 1) := by decide +kernel
theorem dJ6_bitCount_0f7a4_52 : decode cJ6_bitCount_0f7a4 52 = .ok (.ireturn, 1) := by decide +kernel
theorem dJ7_fill_53178_0 : decode cJ7_fill_53178 0 = .ok (.iconst 0, 1) := by decide +kernel
theorem dJ7_fill_53178_1 : decode cJ7_fill_53178 1 = .ok (.istore_n 2, 1) := by decide +kernel
theorem dJ7_fill_53178_2 : decode cJ7_fill_53178 2 = .ok (.aload_n 0, 1) := by decide +kernel
theorem dJ7_fill_53178_3 : decode cJ7_fill_53178 3 = .ok (.arraylength, 1) := by decide +kernel
theorem dJ7_fill_53178_4 : decode cJ7_fill_53178 4 = .ok (.istore_n 3, 1) := by decide +kernel
theorem dJ7_fill_53178_5 : decode cJ7_fill_53178 5 = .ok (.iload_n 2, 1) := by decide +kernel
theorem dJ7_fill_53178_6 : decode cJ7_fill_53178 6 = .ok (.iload_n 3, 1) := by decide +kernel
theorem dJ7_fill_53178_7 : decode cJ7_fill_53178 7 = .ok (.if_icmp .ge 13, 3) := by decide +kernel
theorem dJ7_fill_53178_10 : decode cJ7_fill_53178 10 = .ok (.aload_n 0, 1) := by decide +kernel
theorem dJ7_fill_53178_11 : decode cJ7_fill_53178 11 = .ok (.iload_n 2, 1) := by decide +kernel
theorem dJ7_fill_53178_12 : decode cJ7_fill_53178 12 = .ok (.iload_n 1, 1) := by decide +kernel
theorem dJ7_fill_53178_13 : decode cJ7_fill_53178 13 = .ok (.iastore, 1) := by decide +kernel
theorem dJ7_fill_53178_14 : decode cJ7_fill_53178 14 = .ok (.iinc 2 1, 3) := by decide +kernel
theorem dJ7_fill_53178_17 : decode cJ7_fill_53178 17 = .ok (.goto (-12), 3) := by decide +kernel
theorem dJ7_fill_53178_20 : decode cJ7_fill_53178 20 = .ok (.return_, 1) := by decide +kernel
theorem dJ9_abs_0f7a4_0 : decode cJ9_abs_0f7a4 0 = .ok (.iload_n 0, 1) := by decide +kernel
theorem dJ9_abs_0f7a4_1 : decode cJ9_abs_0f7a4 1 = .ok (.ifCond .ge 8, 3) := by decide +kernel
theorem dJ9_abs_0f7a4_4 : decode cJ9_abs_0f7a4 4 = .ok (.iload_n 0, 1) := by decide +kernel
theorem dJ9_abs_0f7a4_5 : decode cJ9_abs_0f7a4 5 = .ok (.ineg, 1) := by decide +kernel
theorem dJ9_abs_0f7a4_6 : decode cJ9_abs_0f7a4 6 = .ok (.goto 4, 3) := by decide +kernel
theorem dJ9_abs_0f7a4_9 : decode cJ9_abs_0f7a4 9 = .ok (.iload_n 0, 1) := by decide +kernel
theorem dJ9_abs_0f7a4_10 : decode cJ9_abs_0f7a4 10 = .ok (.ireturn, 1) := by decide +kernel
theorem dJ9_max_7cf53_0 : decode cJ9_max_7cf53 0 = .ok (.iload_n 0, 1) := by decide +kernel
theorem dJ9_max_7cf53_1 : decode cJ9_max_7cf53 1 = .ok (.iload_n 1, 1) := by decide +kernel
theorem dJ9_max_7cf53_2 : decode cJ9_max_7cf53 2 = .ok (.if_icmp .lt 7, 3) := by decide +kernel
theorem dJ9_max_7cf53_5 : decode cJ9_max_7cf53 5 = .ok (.iload_n 0, 1) := by decide +kernel
theorem dJ9_max_7cf53_6 : decode cJ9_max_7cf53 6 = .ok (.goto 4, 3) := by decide +kernel
theorem dJ9_max_7cf53_9 : decode cJ9_max_7cf53 9 = .ok (.iload_n 1, 1) := by decide +kernel
theorem dJ9_max_7cf53_10 : decode cJ9_max_7cf53 10 = .ok (.ireturn, 1) := by decide +kernel
theorem dJ9_max_f86c9_0 : decode cJ9_max_f86c9 0 = .ok (.lload_n 0, 1) := by decide +kernel
theorem dJ9_max_f86c9_1 : decode cJ9_max_f86c9 1 = .ok (.lload_n 2, 1) := by decide +kernel
theorem dJ9_max_f86c9_2 : decode cJ9_max_f86c9 2 = .ok (.lcmp, 1) := by decide +kernel
theorem dJ9_max_f86c9_3 : decode cJ9_max_f86c9 3 = .ok (.ifCond .lt 7, 3) := by decide +kernel
theorem dJ9_max_f86c9_6 : decode cJ9_max_f86c9 6 = .ok (.lload_n 0, 1) := by decide +kernel
theorem dJ9_max_f86c9_7 : decode cJ9_max_f86c9 7 = .ok (.goto 4, 3) := by decide +kernel
theorem dJ9_max_f86c9_10 : decode cJ9_max_f86c9 10 = .ok (.lload_n 2, 1) := by decide +kernel
theorem dJ9_max_f86c9_11 : decode cJ9_max_f86c9 11 = .ok (.lreturn, 1) := by decide +kernel
theorem dJ9_min_7cf53_0 : decode cJ9_min_7cf53 0 = .ok (.iload_n 0, 1) := by decide +kernel
theorem dJ9_min_7cf53_1 : decode cJ9_min_7cf53 1 = .ok (.iload_n 1, 1) := by decide +kernel
theorem dJ9_min_7cf53_2 : decode cJ9_min_7cf53 2 = .ok (.if_icmp .gt 7, 3) := by decide +kernel
theorem dJ9_min_7cf53_5 : decode cJ9_min_7cf53 5 = .ok (.iload_n 0, 1) := by decide +kernel
theorem dJ9_min_7cf53_6 : decode cJ9_min_7cf53 6 = .ok (.goto 4, 3) := by decide +kernel
theorem dJ9_min_7cf53_9 : decode cJ9_min_7cf53 9 = .ok (.iload_n 1, 1) := by decide +kernel
theorem dJ9_min_7cf53_10 : decode cJ9_min_7cf53 10 = .ok (.ireturn, 1) := by decide +kernel
end
section
theorem dX5_init_0 : decode cX5_init 0 = .ok (.aload_n 0, 1) := by decide +kernel
theorem dX5_init_1 : decode cX5_init 1 = .ok (.invokespecial 1, 3) := by decide +kernel
theorem dX5_init_4 : decode cX5_init 4 = .ok (.aload_n 0, 1) := by decide +kernel
theorem dX5_init_5 : decode cX5_init 5 = .ok (.new 7, 3) := by decide +kernel
theorem dX5_init_8 : decode cX5_init 8 = .ok (.dup, 1) := by decide +kernel
theorem dX5_init_9 : decode cX5_init 9 = .ok (.invokespecial 9, 3) := by decide +kernel
theorem dX5_init_12 : decode cX5_init 12 = .ok (.putfield 10, 3) := by decide +kernel
theorem dX5_init_15 : decode cX5_init 15 = .ok (.aload_n 0, 1) := by decide +kernel
theorem dX5_init_16 : decode cX5_init 16 = .ok (.new 7, 3) := by decide +kernel
theorem dX5_init_19 : decode cX5_init 19 = .ok (.dup, 1) := by decide +kernel
theorem dX5_init_20 : decode cX5_init 20 = .ok (.invokespecial 9, 3) := by decide +kernel
theorem dX5_init_23 : decode cX5_init 23 = .ok (.putfield 16, 3) := by decide +kernel
theorem dX5_init_26 : decode cX5_init 26 = .ok (.aload_n 0, 1) := by decide +kernel
theorem dX5_init_27 : decode cX5_init 27 = .ok (.new 7, 3) := by decide +kernel
theorem dX5_init_30 : decode cX5_init 30 = .ok (.dup, 1) := by decide +kernel
theorem dX5_init_31 : decode cX5_init 31 = .ok (.invokespecial 9, 3) := by decide +kernel
theorem dX5_init_34 : decode cX5_init 34 = .ok (.putfield 19, 3) := by decide +kernel
theorem dX5_init_37 : decode cX5_init 37 = .ok (.aload_n 0, 1) := by decide +kernel
theorem dX5_init_38 : decode cX5_init 38 = .ok (.new 22, 3) := by decide +kernel
theorem dX5_init_41 : decode cX5_init 41 = .ok (.dup, 1) := by decide +kernel
theorem dX5_init_42 : decode cX5_init 42 = .ok (.invokespecial 24, 3) := by decide +kernel
theorem dX5_init_45 : decode cX5_init 45 = .ok (.putfield 25, 3) := by decide +kernel
theorem dX5_init_48 : decode cX5_init 48 = .ok (.aload_n 0, 1) := by decide +kernel
theorem dX5_init_49 : decode cX5_init 49 = .ok (.iconst 4, 1) := by decide +kernel
theorem dX5_init_50 : decode cX5_init 50 = .ok (.anewarray 29, 3) := by decide +kernel
theorem dX5_init_53 : decode cX5_init 53 = .ok (.putfield 31, 3) := by decide +kernel
theorem dX5_init_56 : decode cX5_init 56 = .ok (.aload_n 0, 1) := by decide +kernel
theorem dX5_init_57 : decode cX5_init 57 = .ok (.iconst 4, 1) := by decide +kernel
theorem dX5_init_58 : decode cX5_init 58 = .ok (.anewarray 35, 3) := by decide +kernel
theorem dX5_init_61 : decode cX5_init 61 = .ok (.putfield 37, 3) := by decide +kernel
theorem dX5_init_64 : decode cX5_init 64 = .ok (.aload_n 0, 1) := by decide +kernel
theorem dX5_init_65 : decode cX5_init 65 = .ok (.new 41, 3) := by decide +kernel
theorem dX5_init_68 : decode cX5_init 68 = .ok (.dup, 1) := by decide +kernel
theorem dX5_init_69 : decode cX5_init 69 = .ok (.invokespecial 43, 3) := by decide +kernel
theorem dX5_init_72 : decode cX5_init 72 = .ok (.putfield 44, 3) := by decide +kernel
theorem dX5_init_75 : decode cX5_init 75 = .ok (.aload_n 0, 1) := by decide +kernel
theorem dX5_init_76 : decode cX5_init 76 = .ok (.bipush 30, 2) := by decide +kernel
theorem dX5_init_78 : decode cX5_init 78 = .ok (.newarray .int, 2) := by decide +kernel
theorem dX5_init_80 : decode cX5_init 80 = .ok (.putfield 48, 3) := by decide +kernel
theorem dX5_init_83 : decode cX5_init 83 = .ok (.aload_n 0, 1) := by decide +kernel
theorem dX5_init_84 : decode cX5_init 84 = .ok (.bipush 61, 2) := by decide +kernel
theorem dX5_init_86 : decode cX5_init 86 = .ok (.newarray .int, 2) := by decide +kernel
theorem dX5_init_88 : decode cX5_init 88 = .ok (.putfield 52, 3) := by decide +kernel
theorem dX5_init_91 : decode cX5_init 91 = .ok (.aload_n 0, 1) := by decide +kernel
theorem dX5_init_92 : decode cX5_init 92 = .ok (.bipush 61, 2) := by decide +kernel
theorem dX5_init_94 : decode cX5_init 94 = .ok (.newarray .int, 2) := by decide +kernel
theorem dX5_init_96 : decode cX5_init 96 = .ok (.putfield 55, 3) := by decide +kernel
theorem dX5_init_99 : decode cX5_init 99 = .ok (.aload_n 0, 1) := by decide +kernel
theorem dX5_init_100 : decode cX5_init 100 = .ok (.bipush 8, 2) := by decide +kernel
theorem dX5_init_102 : decode cX5_init 102 = .ok (.newarray .int, 2) := by decide +kernel
theorem dX5_init_104 : decode cX5_init 104 = .ok (.putfield 58, 3) := by decide +kernel
theorem dX5_init_107 : decode cX5_init 107 = .ok (.aload_n 0, 1) := by decide +kernel
theorem dX5_init_108 : decode cX5_init 108 = .ok (.bipush 16, 2) := by decide +kernel
theorem dX5_init_110 : decode cX5_init 110 = .ok (.newarray .int, 2) := by decide +kernel
theorem dX5_init_112 : decode cX5_init 112 = .ok (.putfield 61, 3) := by decide +kernel
theorem dX5_init_115 : decode cX5_init 115 = .ok (.aload_n 0, 1) := by decide +kernel
theorem dX5_init_116 : decode cX5_init 116 = .ok (.sipush 256, 3) := by decide +kernel
theorem dX5_init_119 : decode cX5_init 119 = .ok (.newarray .int, 2) := by decide +kernel
theorem dX5_init_121 : decode cX5_init 121 = .ok (.putfield 64, 3) := by decide +kernel
theorem dX5_init_124 : decode cX5_init 124 = .ok (.aload_n 0, 1) := by decide +kernel
theorem dX5_init_125 : decode cX5_init 125 = .ok (.iconst 0, 1) := by decide +kernel
theorem dX5_init_126 : decode cX5_init 126 = .ok (.putfield 67, 3) := by decide +kernel
theorem dX5_init_129 : decode cX5_init 129 = .ok (.aload_n 0, 1) := by decide +kernel
theorem dX5_init_130 : decode cX5_init 130 = .ok (.iconst 0, 1) := by decide +kernel
theorem dX5_init_131 : decode cX5_init 131 = .ok (.putfield 71, 3) := by decide +kernel
theorem dX5_init_134 : decode cX5_init 134 = .ok (.iconst 0, 1) := by decide +kernel
theorem dX5_init_135 : decode cX5_init 135 = .ok (.istore_n 1, 1) := by decide +kernel
theorem dX5_init_136 : decode cX5_init 136 = .ok (.iload_n 1, 1) := by decide +kernel
theorem dX5_init_137 : decode cX5_init 137 = .ok (.iconst 4, 1) := by decide +kernel
theorem dX5_init_138 : decode cX5_init 138 = .ok (.if_icmp .ge 22, 3) := by decide +kernel
theorem dX5_init_141 : decode cX5_init 141 = .ok (.aload_n 0, 1) := by decide +kernel
theorem dX5_init_142 : decode cX5_init 142 = .ok (.getfield 31, 3) := by decide +kernel
theorem dX5_init_145 : decode cX5_init 145 = .ok (.iload_n 1, 1) := by decide +kernel
theorem dX5_init_146 : decode cX5_init 146 = .ok (.new 29, 3) := by decide +kernel
theorem dX5_init_149 : decode cX5_init 149 = .ok (.dup, 1) := by decide +kernel
theorem dX5_init_150 : decode cX5_init 150 = .ok (.invokespecial 75, 3) := by decide +kernel
theorem dX5_init_153 : decode cX5_init 153 = .ok (.aastore, 1) := by decide +kernel
theorem dX5_init_154 : decode cX5_init 154 = .ok (.iinc 1 1, 3) := by decide +kernel
theorem dX5_init_157 : decode cX5_init 157 = .ok (.goto (-21), 3) := by decide +kernel
theorem dX5_init_160 : decode cX5_init 160 = .ok (.iconst 0, 1) := by decide +kernel
theorem dX5_init_161 : decode cX5_init 161 = .ok (.istore_n 1, 1) := by decide +kernel
theorem dX5_init_162 : decode cX5_init 162 = .ok (.iload_n 1, 1) := by decide +kernel
theorem dX5_init_163 : decode cX5_init 163 = .ok (.iconst 4, 1) := by decide +kernel
theorem dX5_init_164 : decode cX5_init 164 = .ok (.if_icmp .ge 22, 3) := by decide +kernel
theorem dX5_init_167 : decode cX5_init 167 = .ok (.aload_n 0, 1) := by decide +kernel
theorem dX5_init_168 : decode cX5_init 168 = .ok (.getfield 37, 3) := by decide +kernel
theorem dX5_init_171 : decode cX5_init 171 = .ok (.iload_n 1, 1) := by decide +kernel
theorem dX5_init_172 : decode cX5_init 172 = .ok (.new 35, 3) := by decide +kernel
theorem dX5_init_175 : decode cX5_init 175 = .ok (.dup, 1) := by decide +kernel
theorem dX5_init_176 : decode cX5_init 176 = .ok (.invokespecial 76, 3) := by decide +kernel
theorem dX5_init_179 : decode cX5_init 179 = .ok (.aastore, 1) := by decide +kernel
theorem dX5_init_180 : decode cX5_init 180 = .ok (.iinc 1 1, 3) := by decide +kernel
theorem dX5_init_183 : decode cX5_init 183 = .ok (.goto (-21), 3) := by decide +kernel
theorem dX5_init_186 : decode cX5_init 186 = .ok (.return_, 1) := by decide +kernel
theorem dX5_feed_0 : decode cX5_feed 0 = .ok (.iload_n 3, 1) := by decide +kernel
theorem dX5_feed_1 : decode cX5_feed 1 = .ok (.iconst 1, 1) := by decide +kernel
theorem dX5_feed_2 : decode cX5_feed 2 = .ok (.bipush 8, 2) := by decide +kernel
theorem dX5_feed_4 : decode cX5_feed 4 = .ok (.invokestatic 77, 3) := by decide +kernel
theorem dX5_feed_7 : decode cX5_feed 7 = .ok (.ifCond .ne 5, 3) := by decide +kernel
theorem dX5_feed_10 : decode cX5_feed 10 = .ok (.iconst (-1), 1) := by decide +kernel
theorem dX5_feed_11 : decode cX5_feed 11 = .ok (.ireturn, 1) := by decide +kernel
theorem dX5_feed_12 : decode cX5_feed 12 = .ok (.aload_n 0, 1) := by decide +kernel
theorem dX5_feed_13 : decode cX5_feed 13 = .ok (.getfield 25, 3) := by decide +kernel
theorem dX5_feed_16 : decode cX5_feed 16 = .ok (.lload_n 1, 1) := by decide +kernel
theorem dX5_feed_17 : decode cX5_feed 17 = .ok (.iload_n 3, 1) := by decide +kernel
theorem dX5_feed_18 : decode cX5_feed 18 = .ok (.invokevirtual 81, 3) := by decide +kernel
theorem dX5_feed_21 : decode cX5_feed 21 = .ok (.ifCond .eq 13, 3) := by decide +kernel
theorem dX5_feed_24 : decode cX5_feed 24 = .ok (.aload_n 0, 1) := by decide +kernel
theorem dX5_feed_25 : decode cX5_feed 25 = .ok (.getfield 25, 3) := by decide +kernel
theorem dX5_feed_28 : decode cX5_feed 28 = .ok (.getfield 85, 3) := by decide +kernel
theorem dX5_feed_31 : decode cX5_feed 31 = .ok (.goto 5, 3) := by decide +kernel
theorem dX5_feed_34 : decode cX5_feed 34 = .ok (.bipush (-2), 2) := by decide +kernel
theorem dX5_feed_36 : decode cX5_feed 36 = .ok (.ireturn, 1) := by decide +kernel
theorem dX5_city_0 : decode cX5_city 0 = .ok (.aload_n 0, 1) := by decide +kernel
theorem dX5_city_1 : decode cX5_city 1 = .ok (.getfield 19, 3) := by decide +kernel
theorem dX5_city_4 : decode cX5_city 4 = .ok (.invokevirtual 88, 3) := by decide +kernel
theorem dX5_city_7 : decode cX5_city 7 = .ok (.aload_n 0, 1) := by decide +kernel
theorem dX5_city_8 : decode cX5_city 8 = .ok (.getfield 19, 3) := by decide +kernel
theorem dX5_city_11 : decode cX5_city 11 = .ok (.aload_n 0, 1) := by decide +kernel
theorem dX5_city_12 : decode cX5_city 12 = .ok (.getfield 10, 3) := by decide +kernel
theorem dX5_city_15 : decode cX5_city 15 = .ok (.getfield 91, 3) := by decide +kernel
theorem dX5_city_18 : decode cX5_city 18 = .ok (.putfield 91, 3) := by decide +kernel
theorem dX5_city_21 : decode cX5_city 21 = .ok (.aload_n 0, 1) := by decide +kernel
theorem dX5_city_22 : decode cX5_city 22 = .ok (.getfield 25, 3) := by decide +kernel
theorem dX5_city_25 : decode cX5_city 25 = .ok (.aload_n 0, 1) := by decide +kernel
theorem dX5_city_26 : decode cX5_city 26 = .ok (.getfield 19, 3) := by decide +kernel
theorem dX5_city_29 : decode cX5_city 29 = .ok (.invokevirtual 94, 3) := by decide +kernel
theorem dX5_city_32 : decode cX5_city 32 = .ok (.istore_n 1, 1) := by decide +kernel
theorem dX5_city_33 : decode cX5_city 33 = .ok (.aload_n 0, 1) := by decide +kernel
theorem dX5_city_34 : decode cX5_city 34 = .ok (.getfield 25, 3) := by decide +kernel
theorem dX5_city_37 : decode cX5_city 37 = .ok (.iconst 0, 1) := by decide +kernel
theorem dX5_city_38 : decode cX5_city 38 = .ok (.putfield 85, 3) := by decide +kernel
theorem dX5_city_41 : decode cX5_city 41 = .ok (.iload_n 1, 1) := by decide +kernel
theorem dX5_city_42 : decode cX5_city 42 = .ok (.ifCond .lt 8, 3) := by decide +kernel
theorem dX5_city_45 : decode cX5_city 45 = .ok (.bipush (-100), 2) := by decide +kernel
theorem dX5_city_47 : decode cX5_city 47 = .ok (.iload_n 1, 1) := by decide +kernel
theorem dX5_city_48 : decode cX5_city 48 = .ok (.isub, 1) := by decide +kernel
theorem dX5_city_49 : decode cX5_city 49 = .ok (.ireturn, 1) := by decide +kernel
theorem dX5_city_50 : decode cX5_city 50 = .ok (.aload_n 0, 1) := by decide +kernel
theorem dX5_city_51 : decode cX5_city 51 = .ok (.getfield 10, 3) := by decide +kernel
theorem dX5_city_54 : decode cX5_city 54 = .ok (.aload_n 0, 1) := by decide +kernel
theorem dX5_city_55 : decode cX5_city 55 = .ok (.getfield 19, 3) := by decide +kernel
theorem dX5_city_58 : decode cX5_city 58 = .ok (.invokevirtual 98, 3) := by decide +kernel
theorem dX5_city_61 : decode cX5_city 61 = .ok (.aload_n 0, 1) := by decide +kernel
theorem dX5_city_62 : decode cX5_city 62 = .ok (.iconst 0, 1) := by decide +kernel
theorem dX5_city_63 : decode cX5_city 63 = .ok (.putfield 67, 3) := by decide +kernel
theorem dX5_city_66 : decode cX5_city 66 = .ok (.aload_n 0, 1) := by decide +kernel
theorem dX5_city_67 : decode cX5_city 67 = .ok (.getfield 10, 3) := by decide +kernel
theorem dX5_city_70 : decode cX5_city 70 = .ok (.getfield 102, 3) := by decide +kernel
theorem dX5_city_73 : decode cX5_city 73 = .ok (.ireturn, 1) := by decide +kernel
theorem dX5_set_0 : decode cX5_set 0 = .ok (.iload_n 1, 1) := by decide +kernel
theorem dX5_set_1 : decode cX5_set 1 = .ok (.invokestatic 105, 3) := by decide +kernel
theorem dX5_set_4 : decode cX5_set 4 = .ok (.ifCond .eq 20, 3) := by decide +kernel
theorem dX5_set_7 : decode cX5_set 7 = .ok (.iload_n 2, 1) := by decide +kernel
theorem dX5_set_8 : decode cX5_set 8 = .ok (.getstatic 109, 3) := by decide +kernel
theorem dX5_set_11 : decode cX5_set 11 = .ok (.iload_n 1, 1) := by decide +kernel
theorem dX5_set_12 : decode cX5_set 12 = .ok (.iaload, 1) := by decide +kernel
theorem dX5_set_13 : decode cX5_set 13 = .ok (.getstatic 112, 3) := by decide +kernel
theorem dX5_set_16 : decode cX5_set 16 = .ok (.iload_n 1, 1) := by decide +kernel
theorem dX5_set_17 : decode cX5_set 17 = .ok (.iaload, 1) := by decide +kernel
theorem dX5_set_18 : decode cX5_set 18 = .ok (.invokestatic 77, 3) := by decide +kernel
theorem dX5_set_21 : decode cX5_set 21 = .ok (.ifCond .ne 5, 3) := by decide +kernel
theorem dX5_set_24 : decode cX5_set 24 = .ok (.iconst (-1), 1) := by decide +kernel
theorem dX5_set_25 : decode cX5_set 25 = .ok (.ireturn, 1) := by decide +kernel
theorem dX5_set_26 : decode cX5_set 26 = .ok (.aload_n 0, 1) := by decide +kernel
theorem dX5_set_27 : decode cX5_set 27 = .ok (.getfield 10, 3) := by decide +kernel
theorem dX5_set_30 : decode cX5_set 30 = .ok (.getfield 115, 3) := by decide +kernel
theorem dX5_set_33 : decode cX5_set 33 = .ok (.iload_n 1, 1) := by decide +kernel
theorem dX5_set_34 : decode cX5_set 34 = .ok (.iaload, 1) := by decide +kernel
theorem dX5_set_35 : decode cX5_set 35 = .ok (.istore_n 3, 1) := by decide +kernel
theorem dX5_set_36 : decode cX5_set 36 = .ok (.aload_n 0, 1) := by decide +kernel
theorem dX5_set_37 : decode cX5_set 37 = .ok (.getfield 10, 3) := by decide +kernel
theorem dX5_set_40 : decode cX5_set 40 = .ok (.getfield 115, 3) := by decide +kernel
theorem dX5_set_43 : decode cX5_set 43 = .ok (.iload_n 1, 1) := by decide +kernel
theorem dX5_set_44 : decode cX5_set 44 = .ok (.iload_n 2, 1) := by decide +kernel
theorem dX5_set_45 : decode cX5_set 45 = .ok (.iastore, 1) := by decide +kernel
theorem dX5_set_46 : decode cX5_set 46 = .ok (.iload_n 3, 1) := by decide +kernel
theorem dX5_set_47 : decode cX5_set 47 = .ok (.ireturn, 1) := by decide +kernel
theorem dX5_lawOf_0 : decode cX5_lawOf 0 = .ok (.iload_n 1, 1) := by decide +kernel
theorem dX5_lawOf_1 : decode cX5_lawOf 1 = .ok (.invokestatic 105, 3) := by decide +kernel
theorem dX5_lawOf_4 : decode cX5_lawOf 4 = .ok (.ifCond .eq 15, 3) := by decide +kernel
theorem dX5_lawOf_7 : decode cX5_lawOf 7 = .ok (.aload_n 0, 1) := by decide +kernel
theorem dX5_lawOf_8 : decode cX5_lawOf 8 = .ok (.getfield 10, 3) := by decide +kernel
theorem dX5_lawOf_11 : decode cX5_lawOf 11 = .ok (.getfield 115, 3) := by decide +kernel
theorem dX5_lawOf_14 : decode cX5_lawOf 14 = .ok (.iload_n 1, 1) := by decide +kernel
theorem dX5_lawOf_15 : decode cX5_lawOf 15 = .ok (.iaload, 1) := by decide +kernel
theorem dX5_lawOf_16 : decode cX5_lawOf 16 = .ok (.goto 4, 3) := by decide +kernel
theorem dX5_lawOf_19 : decode cX5_lawOf 19 = .ok (.iconst (-1), 1) := by decide +kernel
theorem dX5_lawOf_20 : decode cX5_lawOf 20 = .ok (.ireturn, 1) := by decide +kernel
theorem dX5_air_0 : decode cX5_air 0 = .ok (.iload_n 1, 1) := by decide +kernel
theorem dX5_air_1 : decode cX5_air 1 = .ok (.invokestatic 118, 3) := by decide +kernel
theorem dX5_air_4 : decode cX5_air 4 = .ok (.ifCond .eq 25, 3) := by decide +kernel
theorem dX5_air_7 : decode cX5_air 7 = .ok (.iload_n 2, 1) := by decide +kernel
theorem dX5_air_8 : decode cX5_air 8 = .ok (.invokestatic 121, 3) := by decide +kernel
theorem dX5_air_11 : decode cX5_air 11 = .ok (.ifCond .eq 18, 3) := by decide +kernel
theorem dX5_air_14 : decode cX5_air 14 = .ok (.iload_n 3, 1) := by decide +kernel
theorem dX5_air_15 : decode cX5_air 15 = .ok (.invokestatic 124, 3) := by decide +kernel
theorem dX5_air_18 : decode cX5_air 18 = .ok (.ifCond .eq 11, 3) := by decide +kernel
theorem dX5_air_21 : decode cX5_air 21 = .ok (.iload 4, 2) := by decide +kernel
theorem dX5_air_23 : decode cX5_air 23 = .ok (.invokestatic 124, 3) := by decide +kernel
theorem dX5_air_26 : decode cX5_air 26 = .ok (.ifCond .ne 5, 3) := by decide +kernel
theorem dX5_air_29 : decode cX5_air 29 = .ok (.iconst (-1), 1) := by decide +kernel
theorem dX5_air_30 : decode cX5_air 30 = .ok (.ireturn, 1) := by decide +kernel
theorem dX5_air_31 : decode cX5_air 31 = .ok (.aload_n 0, 1) := by decide +kernel
theorem dX5_air_32 : decode cX5_air 32 = .ok (.getfield 10, 3) := by decide +kernel
theorem dX5_air_35 : decode cX5_air 35 = .ok (.iload_n 1, 1) := by decide +kernel
theorem dX5_air_36 : decode cX5_air 36 = .ok (.iload_n 2, 1) := by decide +kernel
theorem dX5_air_37 : decode cX5_air 37 = .ok (.iload_n 3, 1) := by decide +kernel
theorem dX5_air_38 : decode cX5_air 38 = .ok (.iload 4, 2) := by decide +kernel
theorem dX5_air_40 : decode cX5_air 40 = .ok (.invokevirtual 127, 3) := by decide +kernel
theorem dX5_air_43 : decode cX5_air 43 = .ok (.ifCond .eq 15, 3) := by decide +kernel
theorem dX5_air_46 : decode cX5_air 46 = .ok (.aload_n 0, 1) := by decide +kernel
theorem dX5_air_47 : decode cX5_air 47 = .ok (.getfield 10, 3) := by decide +kernel
theorem dX5_air_50 : decode cX5_air 50 = .ok (.getfield 102, 3) := by decide +kernel
theorem dX5_air_53 : decode cX5_air 53 = .ok (.iconst 1, 1) := by decide +kernel
theorem dX5_air_54 : decode cX5_air 54 = .ok (.isub, 1) := by decide +kernel
theorem dX5_air_55 : decode cX5_air 55 = .ok (.goto 5, 3) := by decide +kernel
theorem dX5_air_58 : decode cX5_air 58 = .ok (.bipush (-2), 2) := by decide +kernel
theorem dX5_air_60 : decode cX5_air 60 = .ok (.ireturn, 1) := by decide +kernel
theorem dX5_of_0 : decode cX5_of 0 = .ok (.aload_n 0, 1) := by decide +kernel
theorem dX5_of_1 : decode cX5_of 1 = .ok (.getfield 10, 3) := by decide +kernel
theorem dX5_of_4 : decode cX5_of 4 = .ok (.iload_n 1, 1) := by decide +kernel
theorem dX5_of_5 : decode cX5_of 5 = .ok (.invokevirtual 131, 3) := by decide +kernel
theorem dX5_of_8 : decode cX5_of 8 = .ok (.ifCond .ne 5, 3) := by decide +kernel
theorem dX5_of_11 : decode cX5_of 11 = .ok (.iconst (-1), 1) := by decide +kernel
theorem dX5_of_12 : decode cX5_of 12 = .ok (.ireturn, 1) := by decide +kernel
theorem dX5_of_13 : decode cX5_of 13 = .ok (.iload_n 2, 1) := by decide +kernel
theorem dX5_of_14 : decode cX5_of 14 = .ok (.tableswitch 100 0 5 #[38, 48, 58, 68, 78, 87], 38) := by decide +kernel
theorem dX5_of_52 : decode cX5_of 52 = .ok (.aload_n 0, 1) := by decide +kernel
theorem dX5_of_53 : decode cX5_of 53 = .ok (.getfield 10, 3) := by decide +kernel
theorem dX5_of_56 : decode cX5_of 56 = .ok (.getfield 134, 3) := by decide +kernel
theorem dX5_of_59 : decode cX5_of 59 = .ok (.iload_n 1, 1) := by decide +kernel
theorem dX5_of_60 : decode cX5_of 60 = .ok (.iaload, 1) := by decide +kernel
theorem dX5_of_61 : decode cX5_of 61 = .ok (.ireturn, 1) := by decide +kernel
theorem dX5_of_62 : decode cX5_of 62 = .ok (.aload_n 0, 1) := by decide +kernel
theorem dX5_of_63 : decode cX5_of 63 = .ok (.getfield 10, 3) := by decide +kernel
theorem dX5_of_66 : decode cX5_of 66 = .ok (.getfield 137, 3) := by decide +kernel
theorem dX5_of_69 : decode cX5_of 69 = .ok (.iload_n 1, 1) := by decide +kernel
theorem dX5_of_70 : decode cX5_of 70 = .ok (.iaload, 1) := by decide +kernel
theorem dX5_of_71 : decode cX5_of 71 = .ok (.ireturn, 1) := by decide +kernel
theorem dX5_of_72 : decode cX5_of 72 = .ok (.aload_n 0, 1) := by decide +kernel
theorem dX5_of_73 : decode cX5_of 73 = .ok (.getfield 10, 3) := by decide +kernel
theorem dX5_of_76 : decode cX5_of 76 = .ok (.getfield 140, 3) := by decide +kernel
theorem dX5_of_79 : decode cX5_of 79 = .ok (.iload_n 1, 1) := by decide +kernel
theorem dX5_of_80 : decode cX5_of 80 = .ok (.iaload, 1) := by decide +kernel
theorem dX5_of_81 : decode cX5_of 81 = .ok (.ireturn, 1) := by decide +kernel
theorem dX5_of_82 : decode cX5_of 82 = .ok (.aload_n 0, 1) := by decide +kernel
theorem dX5_of_83 : decode cX5_of 83 = .ok (.getfield 10, 3) := by decide +kernel
theorem dX5_of_86 : decode cX5_of 86 = .ok (.getfield 143, 3) := by decide +kernel
theorem dX5_of_89 : decode cX5_of 89 = .ok (.iload_n 1, 1) := by decide +kernel
theorem dX5_of_90 : decode cX5_of 90 = .ok (.iaload, 1) := by decide +kernel
theorem dX5_of_91 : decode cX5_of 91 = .ok (.ireturn, 1) := by decide +kernel
theorem dX5_of_92 : decode cX5_of 92 = .ok (.aload_n 0, 1) := by decide +kernel
theorem dX5_of_93 : decode cX5_of 93 = .ok (.getfield 10, 3) := by decide +kernel
theorem dX5_of_96 : decode cX5_of 96 = .ok (.iload_n 1, 1) := by decide +kernel
theorem dX5_of_97 : decode cX5_of 97 = .ok (.invokevirtual 146, 3) := by decide +kernel
theorem dX5_of_100 : decode cX5_of 100 = .ok (.ireturn, 1) := by decide +kernel
theorem dX5_of_101 : decode cX5_of 101 = .ok (.sipush 1000, 3) := by decide +kernel
theorem dX5_of_104 : decode cX5_of 104 = .ok (.aload_n 0, 1) := by decide +kernel
theorem dX5_of_105 : decode cX5_of 105 = .ok (.getfield 10, 3) := by decide +kernel
theorem dX5_of_108 : decode cX5_of 108 = .ok (.iload_n 1, 1) := by decide +kernel
theorem dX5_of_109 : decode cX5_of 109 = .ok (.invokevirtual 150, 3) := by decide +kernel
theorem dX5_of_112 : decode cX5_of 112 = .ok (.iadd, 1) := by decide +kernel
theorem dX5_of_113 : decode cX5_of 113 = .ok (.ireturn, 1) := by decide +kernel
theorem dX5_of_114 : decode cX5_of 114 = .ok (.iconst (-1), 1) := by decide +kernel
theorem dX5_of_115 : decode cX5_of 115 = .ok (.ireturn, 1) := by decide +kernel
theorem dX5_mind_0 : decode cX5_mind 0 = .ok (.aload_n 0, 1) := by decide +kernel
theorem dX5_mind_1 : decode cX5_mind 1 = .ok (.getfield 10, 3) := by decide +kernel
theorem dX5_mind_4 : decode cX5_mind 4 = .ok (.iload_n 1, 1) := by decide +kernel
theorem dX5_mind_5 : decode cX5_mind 5 = .ok (.invokevirtual 131, 3) := by decide +kernel
theorem dX5_mind_8 : decode cX5_mind 8 = .ok (.ifCond .eq 17, 3) := by decide +kernel
theorem dX5_mind_11 : decode cX5_mind 11 = .ok (.iload_n 2, 1) := by decide +kernel
theorem dX5_mind_12 : decode cX5_mind 12 = .ok (.invokestatic 118, 3) := by decide +kernel
theorem dX5_mind_15 : decode cX5_mind 15 = .ok (.ifCond .eq 10, 3) := by decide +kernel
theorem dX5_mind_18 : decode cX5_mind 18 = .ok (.iload_n 3, 1) := by decide +kernel
theorem dX5_mind_19 : decode cX5_mind 19 = .ok (.invokestatic 121, 3) := by decide +kernel
theorem dX5_mind_22 : decode cX5_mind 22 = .ok (.ifCond .ne 5, 3) := by decide +kernel
theorem dX5_mind_25 : decode cX5_mind 25 = .ok (.iconst (-1), 1) := by decide +kernel
theorem dX5_mind_26 : decode cX5_mind 26 = .ok (.ireturn, 1) := by decide +kernel
theorem dX5_mind_27 : decode cX5_mind 27 = .ok (.aload_n 0, 1) := by decide +kernel
theorem dX5_mind_28 : decode cX5_mind 28 = .ok (.getfield 10, 3) := by decide +kernel
theorem dX5_mind_31 : decode cX5_mind 31 = .ok (.getfield 134, 3) := by decide +kernel
theorem dX5_mind_34 : decode cX5_mind 34 = .ok (.iload_n 1, 1) := by decide +kernel
theorem dX5_mind_35 : decode cX5_mind 35 = .ok (.iaload, 1) := by decide +kernel
theorem dX5_mind_36 : decode cX5_mind 36 = .ok (.istore 4, 2) := by decide +kernel
theorem dX5_mind_38 : decode cX5_mind 38 = .ok (.aload_n 0, 1) := by decide +kernel
theorem dX5_mind_39 : decode cX5_mind 39 = .ok (.getfield 10, 3) := by decide +kernel
theorem dX5_mind_42 : decode cX5_mind 42 = .ok (.getfield 134, 3) := by decide +kernel
theorem dX5_mind_45 : decode cX5_mind 45 = .ok (.iload_n 1, 1) := by decide +kernel
theorem dX5_mind_46 : decode cX5_mind 46 = .ok (.iload_n 2, 1) := by decide +kernel
theorem dX5_mind_47 : decode cX5_mind 47 = .ok (.iastore, 1) := by decide +kernel
theorem dX5_mind_48 : decode cX5_mind 48 = .ok (.aload_n 0, 1) := by decide +kernel
theorem dX5_mind_49 : decode cX5_mind 49 = .ok (.getfield 10, 3) := by decide +kernel
theorem dX5_mind_52 : decode cX5_mind 52 = .ok (.getfield 137, 3) := by decide +kernel
theorem dX5_mind_55 : decode cX5_mind 55 = .ok (.iload_n 1, 1) := by decide +kernel
theorem dX5_mind_56 : decode cX5_mind 56 = .ok (.iload_n 3, 1) := by decide +kernel
theorem dX5_mind_57 : decode cX5_mind 57 = .ok (.iastore, 1) := by decide +kernel
theorem dX5_mind_58 : decode cX5_mind 58 = .ok (.iload 4, 2) := by decide +kernel
theorem dX5_mind_60 : decode cX5_mind 60 = .ok (.ireturn, 1) := by decide +kernel
theorem dX5_bring_0 : decode cX5_bring 0 = .ok (.aload_n 0, 1) := by decide +kernel
theorem dX5_bring_1 : decode cX5_bring 1 = .ok (.getfield 10, 3) := by decide +kernel
theorem dX5_bring_4 : decode cX5_bring 4 = .ok (.iload_n 1, 1) := by decide +kernel
theorem dX5_bring_5 : decode cX5_bring 5 = .ok (.invokevirtual 131, 3) := by decide +kernel
theorem dX5_bring_8 : decode cX5_bring 8 = .ok (.ifCond .eq 10, 3) := by decide +kernel
theorem dX5_bring_11 : decode cX5_bring 11 = .ok (.iload_n 2, 1) := by decide +kernel
theorem dX5_bring_12 : decode cX5_bring 12 = .ok (.invokestatic 124, 3) := by decide +kernel
theorem dX5_bring_15 : decode cX5_bring 15 = .ok (.ifCond .ne 5, 3) := by decide +kernel
theorem dX5_bring_18 : decode cX5_bring 18 = .ok (.iconst (-1), 1) := by decide +kernel
theorem dX5_bring_19 : decode cX5_bring 19 = .ok (.ireturn, 1) := by decide +kernel
theorem dX5_bring_20 : decode cX5_bring 20 = .ok (.aload_n 0, 1) := by decide +kernel
theorem dX5_bring_21 : decode cX5_bring 21 = .ok (.getfield 10, 3) := by decide +kernel
theorem dX5_bring_24 : decode cX5_bring 24 = .ok (.getfield 143, 3) := by decide +kernel
theorem dX5_bring_27 : decode cX5_bring 27 = .ok (.iload_n 1, 1) := by decide +kernel
theorem dX5_bring_28 : decode cX5_bring 28 = .ok (.iaload, 1) := by decide +kernel
theorem dX5_bring_29 : decode cX5_bring 29 = .ok (.istore_n 3, 1) := by decide +kernel
theorem dX5_bring_30 : decode cX5_bring 30 = .ok (.aload_n 0, 1) := by decide +kernel
theorem dX5_bring_31 : decode cX5_bring 31 = .ok (.getfield 10, 3) := by decide +kernel
theorem dX5_bring_34 : decode cX5_bring 34 = .ok (.getfield 143, 3) := by decide +kernel
theorem dX5_bring_37 : decode cX5_bring 37 = .ok (.iload_n 1, 1) := by decide +kernel
theorem dX5_bring_38 : decode cX5_bring 38 = .ok (.iload_n 2, 1) := by decide +kernel
theorem dX5_bring_39 : decode cX5_bring 39 = .ok (.iastore, 1) := by decide +kernel
theorem dX5_bring_40 : decode cX5_bring 40 = .ok (.iload_n 3, 1) := by decide +kernel
theorem dX5_bring_41 : decode cX5_bring 41 = .ok (.ireturn, 1) := by decide +kernel
theorem dX5_send_0 : decode cX5_send 0 = .ok (.aload_n 0, 1) := by decide +kernel
theorem dX5_send_1 : decode cX5_send 1 = .ok (.getfield 10, 3) := by decide +kernel
theorem dX5_send_4 : decode cX5_send 4 = .ok (.iload_n 1, 1) := by decide +kernel
theorem dX5_send_5 : decode cX5_send 5 = .ok (.invokevirtual 131, 3) := by decide +kernel
theorem dX5_send_8 : decode cX5_send 8 = .ok (.ifCond .eq 10, 3) := by decide +kernel
theorem dX5_send_11 : decode cX5_send 11 = .ok (.iload_n 2, 1) := by decide +kernel
theorem dX5_send_12 : decode cX5_send 12 = .ok (.invokestatic 124, 3) := by decide +kernel
theorem dX5_send_15 : decode cX5_send 15 = .ok (.ifCond .ne 5, 3) := by decide +kernel
theorem dX5_send_18 : decode cX5_send 18 = .ok (.iconst (-1), 1) := by decide +kernel
theorem dX5_send_19 : decode cX5_send 19 = .ok (.ireturn, 1) := by decide +kernel
theorem dX5_send_20 : decode cX5_send 20 = .ok (.aload_n 0, 1) := by decide +kernel
theorem dX5_send_21 : decode cX5_send 21 = .ok (.getfield 10, 3) := by decide +kernel
theorem dX5_send_24 : decode cX5_send 24 = .ok (.getfield 140, 3) := by decide +kernel
theorem dX5_send_27 : decode cX5_send 27 = .ok (.iload_n 1, 1) := by decide +kernel
theorem dX5_send_28 : decode cX5_send 28 = .ok (.iaload, 1) := by decide +kernel
theorem dX5_send_29 : decode cX5_send 29 = .ok (.istore_n 3, 1) := by decide +kernel
theorem dX5_send_30 : decode cX5_send 30 = .ok (.aload_n 0, 1) := by decide +kernel
theorem dX5_send_31 : decode cX5_send 31 = .ok (.getfield 10, 3) := by decide +kernel
theorem dX5_send_34 : decode cX5_send 34 = .ok (.getfield 140, 3) := by decide +kernel
theorem dX5_send_37 : decode cX5_send 37 = .ok (.iload_n 1, 1) := by decide +kernel
theorem dX5_send_38 : decode cX5_send 38 = .ok (.iload_n 2, 1) := by decide +kernel
theorem dX5_send_39 : decode cX5_send 39 = .ok (.iastore, 1) := by decide +kernel
theorem dX5_send_40 : decode cX5_send 40 = .ok (.iload_n 3, 1) := by decide +kernel
theorem dX5_send_41 : decode cX5_send 41 = .ok (.ireturn, 1) := by decide +kernel
theorem dX5_blow_0 : decode cX5_blow 0 = .ok (.iload_n 1, 1) := by decide +kernel
theorem dX5_blow_1 : decode cX5_blow 1 = .ok (.iconst 0, 1) := by decide +kernel
theorem dX5_blow_2 : decode cX5_blow 2 = .ok (.iconst 3, 1) := by decide +kernel
theorem dX5_blow_3 : decode cX5_blow 3 = .ok (.invokestatic 77, 3) := by decide +kernel
theorem dX5_blow_6 : decode cX5_blow 6 = .ok (.ifCond .ne 5, 3) := by decide +kernel
theorem dX5_blow_9 : decode cX5_blow 9 = .ok (.iconst (-1), 1) := by decide +kernel
theorem dX5_blow_10 : decode cX5_blow 10 = .ok (.ireturn, 1) := by decide +kernel
theorem dX5_blow_11 : decode cX5_blow 11 = .ok (.aload_n 0, 1) := by decide +kernel
theorem dX5_blow_12 : decode cX5_blow 12 = .ok (.getfield 10, 3) := by decide +kernel
theorem dX5_blow_15 : decode cX5_blow 15 = .ok (.getfield 153, 3) := by decide +kernel
theorem dX5_blow_18 : decode cX5_blow 18 = .ok (.istore_n 2, 1) := by decide +kernel
theorem dX5_blow_19 : decode cX5_blow 19 = .ok (.aload_n 0, 1) := by decide +kernel
theorem dX5_blow_20 : decode cX5_blow 20 = .ok (.getfield 10, 3) := by decide +kernel
theorem dX5_blow_23 : decode cX5_blow 23 = .ok (.iload_n 1, 1) := by decide +kernel
theorem dX5_blow_24 : decode cX5_blow 24 = .ok (.putfield 153, 3) := by decide +kernel
theorem dX5_blow_27 : decode cX5_blow 27 = .ok (.iload_n 2, 1) := by decide +kernel
theorem dX5_blow_28 : decode cX5_blow 28 = .ok (.ireturn, 1) := by decide +kernel
theorem dX5_pour_0 : decode cX5_pour 0 = .ok (.iload_n 1, 1) := by decide +kernel
theorem dX5_pour_1 : decode cX5_pour 1 = .ok (.invokestatic 124, 3) := by decide +kernel
theorem dX5_pour_4 : decode cX5_pour 4 = .ok (.ifCond .eq 13, 3) := by decide +kernel
theorem dX5_pour_7 : decode cX5_pour 7 = .ok (.iload_n 2, 1) := by decide +kernel
theorem dX5_pour_8 : decode cX5_pour 8 = .ok (.iconst 0, 1) := by decide +kernel
theorem dX5_pour_9 : decode cX5_pour 9 = .ok (.bipush 99, 2) := by decide +kernel
theorem dX5_pour_11 : decode cX5_pour 11 = .ok (.invokestatic 77, 3) := by decide +kernel
theorem dX5_pour_14 : decode cX5_pour 14 = .ok (.ifCond .ne 5, 3) := by decide +kernel
theorem dX5_pour_17 : decode cX5_pour 17 = .ok (.iconst (-1), 1) := by decide +kernel
theorem dX5_pour_18 : decode cX5_pour 18 = .ok (.ireturn, 1) := by decide +kernel
theorem dX5_pour_19 : decode cX5_pour 19 = .ok (.aload_n 0, 1) := by decide +kernel
theorem dX5_pour_20 : decode cX5_pour 20 = .ok (.getfield 10, 3) := by decide +kernel
theorem dX5_pour_23 : decode cX5_pour 23 = .ok (.getfield 156, 3) := by decide +kernel
theorem dX5_pour_26 : decode cX5_pour 26 = .ok (.iload_n 1, 1) := by decide +kernel
theorem dX5_pour_27 : decode cX5_pour 27 = .ok (.iaload, 1) := by decide +kernel
theorem dX5_pour_28 : decode cX5_pour 28 = .ok (.istore_n 3, 1) := by decide +kernel
theorem dX5_pour_29 : decode cX5_pour 29 = .ok (.aload_n 0, 1) := by decide +kernel
theorem dX5_pour_30 : decode cX5_pour 30 = .ok (.getfield 10, 3) := by decide +kernel
theorem dX5_pour_33 : decode cX5_pour 33 = .ok (.getfield 156, 3) := by decide +kernel
theorem dX5_pour_36 : decode cX5_pour 36 = .ok (.iload_n 1, 1) := by decide +kernel
theorem dX5_pour_37 : decode cX5_pour 37 = .ok (.iload_n 2, 1) := by decide +kernel
theorem dX5_pour_38 : decode cX5_pour 38 = .ok (.iastore, 1) := by decide +kernel
theorem dX5_pour_39 : decode cX5_pour 39 = .ok (.iload_n 3, 1) := by decide +kernel
theorem dX5_pour_40 : decode cX5_pour 40 = .ok (.ireturn, 1) := by decide +kernel
theorem dX5_house_0 : decode cX5_house 0 = .ok (.iload_n 1, 1) := by decide +kernel
theorem dX5_house_1 : decode cX5_house 1 = .ok (.invokestatic 124, 3) := by decide +kernel
theorem dX5_house_4 : decode cX5_house 4 = .ok (.ifCond .ne 5, 3) := by decide +kernel
theorem dX5_house_7 : decode cX5_house 7 = .ok (.iconst (-1), 1) := by decide +kernel
theorem dX5_house_8 : decode cX5_house 8 = .ok (.ireturn, 1) := by decide +kernel
theorem dX5_house_9 : decode cX5_house 9 = .ok (.iload_n 2, 1) := by decide +kernel
theorem dX5_house_10 : decode cX5_house 10 = .ok (.lookupswitch 45 #[(0, 26), (1, 36)], 26) := by decide +kernel
theorem dX5_house_36 : decode cX5_house 36 = .ok (.aload_n 0, 1) := by decide +kernel
theorem dX5_house_37 : decode cX5_house 37 = .ok (.getfield 10, 3) := by decide +kernel
theorem dX5_house_40 : decode cX5_house 40 = .ok (.getfield 156, 3) := by decide +kernel
theorem dX5_house_43 : decode cX5_house 43 = .ok (.iload_n 1, 1) := by decide +kernel
theorem dX5_house_44 : decode cX5_house 44 = .ok (.iaload, 1) := by decide +kernel
theorem dX5_house_45 : decode cX5_house 45 = .ok (.ireturn, 1) := by decide +kernel
theorem dX5_house_46 : decode cX5_house 46 = .ok (.aload_n 0, 1) := by decide +kernel
theorem dX5_house_47 : decode cX5_house 47 = .ok (.getfield 10, 3) := by decide +kernel
theorem dX5_house_50 : decode cX5_house 50 = .ok (.iload_n 1, 1) := by decide +kernel
theorem dX5_house_51 : decode cX5_house 51 = .ok (.invokevirtual 159, 3) := by decide +kernel
theorem dX5_house_54 : decode cX5_house 54 = .ok (.ireturn, 1) := by decide +kernel
theorem dX5_house_55 : decode cX5_house 55 = .ok (.iconst (-1), 1) := by decide +kernel
theorem dX5_house_56 : decode cX5_house 56 = .ok (.ireturn, 1) := by decide +kernel
theorem dX5_steps_0 : decode cX5_steps 0 = .ok (.iload_n 1, 1) := by decide +kernel
theorem dX5_steps_1 : decode cX5_steps 1 = .ok (.iconst 1, 1) := by decide +kernel
theorem dX5_steps_2 : decode cX5_steps 2 = .ok (.bipush 60, 2) := by decide +kernel
theorem dX5_steps_4 : decode cX5_steps 4 = .ok (.invokestatic 77, 3) := by decide +kernel
theorem dX5_steps_7 : decode cX5_steps 7 = .ok (.ifCond .ne 5, 3) := by decide +kernel
theorem dX5_steps_10 : decode cX5_steps 10 = .ok (.iconst (-1), 1) := by decide +kernel
theorem dX5_steps_11 : decode cX5_steps 11 = .ok (.ireturn, 1) := by decide +kernel
theorem dX5_steps_12 : decode cX5_steps 12 = .ok (.iconst 0, 1) := by decide +kernel
theorem dX5_steps_13 : decode cX5_steps 13 = .ok (.istore_n 2, 1) := by decide +kernel
theorem dX5_steps_14 : decode cX5_steps 14 = .ok (.iload_n 2, 1) := by decide +kernel
theorem dX5_steps_15 : decode cX5_steps 15 = .ok (.iload_n 1, 1) := by decide +kernel
theorem dX5_steps_16 : decode cX5_steps 16 = .ok (.if_icmp .ge 16, 3) := by decide +kernel
theorem dX5_steps_19 : decode cX5_steps 19 = .ok (.aload_n 0, 1) := by decide +kernel
theorem dX5_steps_20 : decode cX5_steps 20 = .ok (.getfield 10, 3) := by decide +kernel
theorem dX5_steps_23 : decode cX5_steps 23 = .ok (.invokevirtual 162, 3) := by decide +kernel
theorem dX5_steps_26 : decode cX5_steps 26 = .ok (.iinc 2 1, 3) := by decide +kernel
theorem dX5_steps_29 : decode cX5_steps 29 = .ok (.goto (-15), 3) := by decide +kernel
theorem dX5_steps_32 : decode cX5_steps 32 = .ok (.aload_n 0, 1) := by decide +kernel
theorem dX5_steps_33 : decode cX5_steps 33 = .ok (.getfield 10, 3) := by decide +kernel
theorem dX5_steps_36 : decode cX5_steps 36 = .ok (.invokevirtual 165, 3) := by decide +kernel
theorem dX5_steps_39 : decode cX5_steps 39 = .ok (.invokestatic 169, 3) := by decide +kernel
theorem dX5_steps_42 : decode cX5_steps 42 = .ok (.ireturn, 1) := by decide +kernel
theorem dX5_seed_0 : decode cX5_seed 0 = .ok (.aload_n 0, 1) := by decide +kernel
theorem dX5_seed_1 : decode cX5_seed 1 = .ok (.getfield 10, 3) := by decide +kernel
theorem dX5_seed_4 : decode cX5_seed 4 = .ok (.getfield 91, 3) := by decide +kernel
theorem dX5_seed_7 : decode cX5_seed 7 = .ok (.istore_n 2, 1) := by decide +kernel
theorem dX5_seed_8 : decode cX5_seed 8 = .ok (.aload_n 0, 1) := by decide +kernel
theorem dX5_seed_9 : decode cX5_seed 9 = .ok (.getfield 10, 3) := by decide +kernel
theorem dX5_seed_12 : decode cX5_seed 12 = .ok (.iload_n 1, 1) := by decide +kernel
theorem dX5_seed_13 : decode cX5_seed 13 = .ok (.putfield 91, 3) := by decide +kernel
theorem dX5_seed_16 : decode cX5_seed 16 = .ok (.iload_n 2, 1) := by decide +kernel
theorem dX5_seed_17 : decode cX5_seed 17 = .ok (.ireturn, 1) := by decide +kernel
theorem dX5_step_0 : decode cX5_step 0 = .ok (.aload_n 0, 1) := by decide +kernel
theorem dX5_step_1 : decode cX5_step 1 = .ok (.getfield 10, 3) := by decide +kernel
theorem dX5_step_4 : decode cX5_step 4 = .ok (.invokevirtual 174, 3) := by decide +kernel
theorem dX5_step_7 : decode cX5_step 7 = .ok (.aload_n 0, 1) := by decide +kernel
theorem dX5_step_8 : decode cX5_step 8 = .ok (.getfield 10, 3) := by decide +kernel
theorem dX5_step_11 : decode cX5_step 11 = .ok (.invokevirtual 165, 3) := by decide +kernel
theorem dX5_step_14 : decode cX5_step 14 = .ok (.invokestatic 169, 3) := by decide +kernel
theorem dX5_step_17 : decode cX5_step 17 = .ok (.ireturn, 1) := by decide +kernel
theorem dX5_blown_0 : decode cX5_blown 0 = .ok (.iload_n 1, 1) := by decide +kernel
theorem dX5_blown_1 : decode cX5_blown 1 = .ok (.iconst 1, 1) := by decide +kernel
theorem dX5_blown_2 : decode cX5_blown 2 = .ok (.bipush 30, 2) := by decide +kernel
theorem dX5_blown_4 : decode cX5_blown 4 = .ok (.invokestatic 77, 3) := by decide +kernel
theorem dX5_blown_7 : decode cX5_blown 7 = .ok (.ifCond .ne 5, 3) := by decide +kernel
theorem dX5_blown_10 : decode cX5_blown 10 = .ok (.iconst (-1), 1) := by decide +kernel
theorem dX5_blown_11 : decode cX5_blown 11 = .ok (.ireturn, 1) := by decide +kernel
theorem dX5_blown_12 : decode cX5_blown 12 = .ok (.aload_n 0, 1) := by decide +kernel
theorem dX5_blown_13 : decode cX5_blown 13 = .ok (.getfield 19, 3) := by decide +kernel
theorem dX5_blown_16 : decode cX5_blown 16 = .ok (.aload_n 0, 1) := by decide +kernel
theorem dX5_blown_17 : decode cX5_blown 17 = .ok (.getfield 10, 3) := by decide +kernel
theorem dX5_blown_20 : decode cX5_blown 20 = .ok (.invokevirtual 98, 3) := by decide +kernel
theorem dX5_blown_23 : decode cX5_blown 23 = .ok (.aload_n 0, 1) := by decide +kernel
theorem dX5_blown_24 : decode cX5_blown 24 = .ok (.getfield 19, 3) := by decide +kernel
theorem dX5_blown_27 : decode cX5_blown 27 = .ok (.invokevirtual 162, 3) := by decide +kernel
theorem dX5_blown_30 : decode cX5_blown 30 = .ok (.aload_n 0, 1) := by decide +kernel
theorem dX5_blown_31 : decode cX5_blown 31 = .ok (.getfield 19, 3) := by decide +kernel
theorem dX5_blown_34 : decode cX5_blown 34 = .ok (.getfield 143, 3) := by decide +kernel
theorem dX5_blown_37 : decode cX5_blown 37 = .ok (.iconst 0, 1) := by decide +kernel
theorem dX5_blown_38 : decode cX5_blown 38 = .ok (.aload_n 0, 1) := by decide +kernel
theorem dX5_blown_39 : decode cX5_blown 39 = .ok (.getfield 58, 3) := by decide +kernel
theorem dX5_blown_42 : decode cX5_blown 42 = .ok (.iconst 0, 1) := by decide +kernel
theorem dX5_blown_43 : decode cX5_blown 43 = .ok (.bipush 8, 2) := by decide +kernel
theorem dX5_blown_45 : decode cX5_blown 45 = .ok (.invokestatic 177, 3) := by decide +kernel
theorem dX5_blown_48 : decode cX5_blown 48 = .ok (.aload_n 0, 1) := by decide +kernel
theorem dX5_blown_49 : decode cX5_blown 49 = .ok (.getfield 10, 3) := by decide +kernel
theorem dX5_blown_52 : decode cX5_blown 52 = .ok (.getfield 91, 3) := by decide +kernel
theorem dX5_blown_55 : decode cX5_blown 55 = .ok (.istore_n 2, 1) := by decide +kernel
theorem dX5_blown_56 : decode cX5_blown 56 = .ok (.iconst 0, 1) := by decide +kernel
theorem dX5_blown_57 : decode cX5_blown 57 = .ok (.istore_n 3, 1) := by decide +kernel
theorem dX5_blown_58 : decode cX5_blown 58 = .ok (.iconst 0, 1) := by decide +kernel
theorem dX5_blown_59 : decode cX5_blown 59 = .ok (.istore 4, 2) := by decide +kernel
theorem dX5_blown_61 : decode cX5_blown 61 = .ok (.iload 4, 2) := by decide +kernel
theorem dX5_blown_63 : decode cX5_blown 63 = .ok (.iload_n 1, 1) := by decide +kernel
theorem dX5_blown_64 : decode cX5_blown 64 = .ok (.if_icmp .ge 60, 3) := by decide +kernel
theorem dX5_blown_67 : decode cX5_blown 67 = .ok (.aload_n 0, 1) := by decide +kernel
theorem dX5_blown_68 : decode cX5_blown 68 = .ok (.getfield 19, 3) := by decide +kernel
theorem dX5_blown_71 : decode cX5_blown 71 = .ok (.aload_n 0, 1) := by decide +kernel
theorem dX5_blown_72 : decode cX5_blown 72 = .ok (.getfield 10, 3) := by decide +kernel
theorem dX5_blown_75 : decode cX5_blown 75 = .ok (.invokevirtual 98, 3) := by decide +kernel
theorem dX5_blown_78 : decode cX5_blown 78 = .ok (.aload_n 0, 1) := by decide +kernel
theorem dX5_blown_79 : decode cX5_blown 79 = .ok (.getfield 19, 3) := by decide +kernel
theorem dX5_blown_82 : decode cX5_blown 82 = .ok (.iload_n 2, 1) := by decide +kernel
theorem dX5_blown_83 : decode cX5_blown 83 = .ok (.putfield 91, 3) := by decide +kernel
theorem dX5_blown_86 : decode cX5_blown 86 = .ok (.aload_n 0, 1) := by decide +kernel
theorem dX5_blown_87 : decode cX5_blown 87 = .ok (.getfield 19, 3) := by decide +kernel
theorem dX5_blown_90 : decode cX5_blown 90 = .ok (.invokevirtual 174, 3) := by decide +kernel
theorem dX5_blown_93 : decode cX5_blown 93 = .ok (.aload_n 0, 1) := by decide +kernel
theorem dX5_blown_94 : decode cX5_blown 94 = .ok (.getfield 19, 3) := by decide +kernel
theorem dX5_blown_97 : decode cX5_blown 97 = .ok (.getfield 91, 3) := by decide +kernel
theorem dX5_blown_100 : decode cX5_blown 100 = .ok (.istore_n 2, 1) := by decide +kernel
theorem dX5_blown_101 : decode cX5_blown 101 = .ok (.aload_n 0, 1) := by decide +kernel
theorem dX5_blown_102 : decode cX5_blown 102 = .ok (.getfield 19, 3) := by decide +kernel
theorem dX5_blown_105 : decode cX5_blown 105 = .ok (.aload_n 0, 1) := by decide +kernel
theorem dX5_blown_106 : decode cX5_blown 106 = .ok (.getfield 58, 3) := by decide +kernel
theorem dX5_blown_109 : decode cX5_blown 109 = .ok (.invokevirtual 183, 3) := by decide +kernel
theorem dX5_blown_112 : decode cX5_blown 112 = .ok (.ifCond .eq 6, 3) := by decide +kernel
theorem dX5_blown_115 : decode cX5_blown 115 = .ok (.iinc 3 1, 3) := by decide +kernel
theorem dX5_blown_118 : decode cX5_blown 118 = .ok (.iinc 4 1, 3) := by decide +kernel
theorem dX5_blown_121 : decode cX5_blown 121 = .ok (.goto (-60), 3) := by decide +kernel
theorem dX5_blown_124 : decode cX5_blown 124 = .ok (.iload_n 3, 1) := by decide +kernel
theorem dX5_blown_125 : decode cX5_blown 125 = .ok (.ireturn, 1) := by decide +kernel
theorem dX5_state_0 : decode cX5_state 0 = .ok (.iload_n 1, 1) := by decide +kernel
theorem dX5_state_1 : decode cX5_state 1 = .ok (.tableswitch 96 0 5 #[39, 47, 55, 63, 71, 79], 39) := by decide +kernel
theorem dX5_state_40 : decode cX5_state 40 = .ok (.aload_n 0, 1) := by decide +kernel
theorem dX5_state_41 : decode cX5_state 41 = .ok (.getfield 10, 3) := by decide +kernel
theorem dX5_state_44 : decode cX5_state 44 = .ok (.getfield 187, 3) := by decide +kernel
theorem dX5_state_47 : decode cX5_state 47 = .ok (.ireturn, 1) := by decide +kernel
theorem dX5_state_48 : decode cX5_state 48 = .ok (.aload_n 0, 1) := by decide +kernel
theorem dX5_state_49 : decode cX5_state 49 = .ok (.getfield 10, 3) := by decide +kernel
theorem dX5_state_52 : decode cX5_state 52 = .ok (.getfield 153, 3) := by decide +kernel
theorem dX5_state_55 : decode cX5_state 55 = .ok (.ireturn, 1) := by decide +kernel
theorem dX5_state_56 : decode cX5_state 56 = .ok (.aload_n 0, 1) := by decide +kernel
theorem dX5_state_57 : decode cX5_state 57 = .ok (.getfield 10, 3) := by decide +kernel
theorem dX5_state_60 : decode cX5_state 60 = .ok (.invokevirtual 190, 3) := by decide +kernel
theorem dX5_state_63 : decode cX5_state 63 = .ok (.ireturn, 1) := by decide +kernel
theorem dX5_state_64 : decode cX5_state 64 = .ok (.aload_n 0, 1) := by decide +kernel
theorem dX5_state_65 : decode cX5_state 65 = .ok (.getfield 10, 3) := by decide +kernel
theorem dX5_state_68 : decode cX5_state 68 = .ok (.invokevirtual 193, 3) := by decide +kernel
theorem dX5_state_71 : decode cX5_state 71 = .ok (.ireturn, 1) := by decide +kernel
theorem dX5_state_72 : decode cX5_state 72 = .ok (.aload_n 0, 1) := by decide +kernel
theorem dX5_state_73 : decode cX5_state 73 = .ok (.getfield 10, 3) := by decide +kernel
theorem dX5_state_76 : decode cX5_state 76 = .ok (.invokevirtual 165, 3) := by decide +kernel
theorem dX5_state_79 : decode cX5_state 79 = .ok (.ireturn, 1) := by decide +kernel
theorem dX5_state_80 : decode cX5_state 80 = .ok (.aload_n 0, 1) := by decide +kernel
theorem dX5_state_81 : decode cX5_state 81 = .ok (.getfield 10, 3) := by decide +kernel
theorem dX5_state_84 : decode cX5_state 84 = .ok (.aload_n 0, 1) := by decide +kernel
theorem dX5_state_85 : decode cX5_state 85 = .ok (.getfield 10, 3) := by decide +kernel
theorem dX5_state_88 : decode cX5_state 88 = .ok (.getfield 115, 3) := by decide +kernel
theorem dX5_state_91 : decode cX5_state 91 = .ok (.iconst 1, 1) := by decide +kernel
theorem dX5_state_92 : decode cX5_state 92 = .ok (.iaload, 1) := by decide +kernel
theorem dX5_state_93 : decode cX5_state 93 = .ok (.invokevirtual 196, 3) := by decide +kernel
theorem dX5_state_96 : decode cX5_state 96 = .ok (.ireturn, 1) := by decide +kernel
theorem dX5_state_97 : decode cX5_state 97 = .ok (.iconst (-1), 1) := by decide +kernel
theorem dX5_state_98 : decode cX5_state 98 = .ok (.ireturn, 1) := by decide +kernel
theorem dX5_where_0 : decode cX5_where 0 = .ok (.aload_n 0, 1) := by decide +kernel
theorem dX5_where_1 : decode cX5_where 1 = .ok (.getfield 10, 3) := by decide +kernel
theorem dX5_where_4 : decode cX5_where 4 = .ok (.iload_n 1, 1) := by decide +kernel
theorem dX5_where_5 : decode cX5_where 5 = .ok (.invokevirtual 131, 3) := by decide +kernel
theorem dX5_where_8 : decode cX5_where 8 = .ok (.ifCond .eq 13, 3) := by decide +kernel
theorem dX5_where_11 : decode cX5_where 11 = .ok (.iload_n 2, 1) := by decide +kernel
theorem dX5_where_12 : decode cX5_where 12 = .ok (.iconst 0, 1) := by decide +kernel
theorem dX5_where_13 : decode cX5_where 13 = .ok (.bipush 60, 2) := by decide +kernel
theorem dX5_where_15 : decode cX5_where 15 = .ok (.invokestatic 77, 3) := by decide +kernel
theorem dX5_where_18 : decode cX5_where 18 = .ok (.ifCond .ne 5, 3) := by decide +kernel
theorem dX5_where_21 : decode cX5_where 21 = .ok (.iconst (-1), 1) := by decide +kernel
theorem dX5_where_22 : decode cX5_where 22 = .ok (.ireturn, 1) := by decide +kernel
theorem dX5_where_23 : decode cX5_where 23 = .ok (.aload_n 0, 1) := by decide +kernel
theorem dX5_where_24 : decode cX5_where 24 = .ok (.iload_n 1, 1) := by decide +kernel
theorem dX5_where_25 : decode cX5_where 25 = .ok (.iload_n 2, 1) := by decide +kernel
theorem dX5_where_26 : decode cX5_where 26 = .ok (.aload_n 0, 1) := by decide +kernel
theorem dX5_where_27 : decode cX5_where 27 = .ok (.getfield 52, 3) := by decide +kernel
theorem dX5_where_30 : decode cX5_where 30 = .ok (.invokevirtual 199, 3) := by decide +kernel
theorem dX5_where_33 : decode cX5_where 33 = .ok (.aload_n 0, 1) := by decide +kernel
theorem dX5_where_34 : decode cX5_where 34 = .ok (.getfield 52, 3) := by decide +kernel
theorem dX5_where_37 : decode cX5_where 37 = .ok (.iload_n 2, 1) := by decide +kernel
theorem dX5_where_38 : decode cX5_where 38 = .ok (.iaload, 1) := by decide +kernel
theorem dX5_where_39 : decode cX5_where 39 = .ok (.ireturn, 1) := by decide +kernel
theorem dX5_stops_0 : decode cX5_stops 0 = .ok (.aload_n 0, 1) := by decide +kernel
theorem dX5_stops_1 : decode cX5_stops 1 = .ok (.getfield 10, 3) := by decide +kernel
theorem dX5_stops_4 : decode cX5_stops 4 = .ok (.iload_n 1, 1) := by decide +kernel
theorem dX5_stops_5 : decode cX5_stops 5 = .ok (.invokevirtual 131, 3) := by decide +kernel
theorem dX5_stops_8 : decode cX5_stops 8 = .ok (.ifCond .ne 5, 3) := by decide +kernel
theorem dX5_stops_11 : decode cX5_stops 11 = .ok (.iconst (-1), 1) := by decide +kernel
theorem dX5_stops_12 : decode cX5_stops 12 = .ok (.ireturn, 1) := by decide +kernel
theorem dX5_stops_13 : decode cX5_stops 13 = .ok (.aload_n 0, 1) := by decide +kernel
theorem dX5_stops_14 : decode cX5_stops 14 = .ok (.iload_n 1, 1) := by decide +kernel
theorem dX5_stops_15 : decode cX5_stops 15 = .ok (.bipush 60, 2) := by decide +kernel
theorem dX5_stops_17 : decode cX5_stops 17 = .ok (.aload_n 0, 1) := by decide +kernel
theorem dX5_stops_18 : decode cX5_stops 18 = .ok (.getfield 52, 3) := by decide +kernel
theorem dX5_stops_21 : decode cX5_stops 21 = .ok (.invokevirtual 199, 3) := by decide +kernel
theorem dX5_stops_24 : decode cX5_stops 24 = .ok (.iconst 0, 1) := by decide +kernel
theorem dX5_stops_25 : decode cX5_stops 25 = .ok (.istore_n 2, 1) := by decide +kernel
theorem dX5_stops_26 : decode cX5_stops 26 = .ok (.iload_n 2, 1) := by decide +kernel
theorem dX5_stops_27 : decode cX5_stops 27 = .ok (.bipush 60, 2) := by decide +kernel
theorem dX5_stops_29 : decode cX5_stops 29 = .ok (.if_icmp .gt 29, 3) := by decide +kernel
theorem dX5_stops_32 : decode cX5_stops 32 = .ok (.aload_n 0, 1) := by decide +kernel
theorem dX5_stops_33 : decode cX5_stops 33 = .ok (.getfield 52, 3) := by decide +kernel
theorem dX5_stops_36 : decode cX5_stops 36 = .ok (.iload_n 2, 1) := by decide +kernel
theorem dX5_stops_37 : decode cX5_stops 37 = .ok (.iaload, 1) := by decide +kernel
theorem dX5_stops_38 : decode cX5_stops 38 = .ok (.aload_n 0, 1) := by decide +kernel
theorem dX5_stops_39 : decode cX5_stops 39 = .ok (.getfield 10, 3) := by decide +kernel
theorem dX5_stops_42 : decode cX5_stops 42 = .ok (.getfield 140, 3) := by decide +kernel
theorem dX5_stops_45 : decode cX5_stops 45 = .ok (.iload_n 1, 1) := by decide +kernel
theorem dX5_stops_46 : decode cX5_stops 46 = .ok (.iaload, 1) := by decide +kernel
theorem dX5_stops_47 : decode cX5_stops 47 = .ok (.if_icmp .ne 5, 3) := by decide +kernel
theorem dX5_stops_50 : decode cX5_stops 50 = .ok (.iload_n 2, 1) := by decide +kernel
theorem dX5_stops_51 : decode cX5_stops 51 = .ok (.ireturn, 1) := by decide +kernel
theorem dX5_stops_52 : decode cX5_stops 52 = .ok (.iinc 2 1, 3) := by decide +kernel
theorem dX5_stops_55 : decode cX5_stops 55 = .ok (.goto (-29), 3) := by decide +kernel
theorem dX5_stops_58 : decode cX5_stops 58 = .ok (.bipush (-3), 2) := by decide +kernel
theorem dX5_stops_60 : decode cX5_stops 60 = .ok (.ireturn, 1) := by decide +kernel
theorem dX5_meets_0 : decode cX5_meets 0 = .ok (.aload_n 0, 1) := by decide +kernel
theorem dX5_meets_1 : decode cX5_meets 1 = .ok (.getfield 10, 3) := by decide +kernel
theorem dX5_meets_4 : decode cX5_meets 4 = .ok (.iload_n 1, 1) := by decide +kernel
theorem dX5_meets_5 : decode cX5_meets 5 = .ok (.invokevirtual 131, 3) := by decide +kernel
theorem dX5_meets_8 : decode cX5_meets 8 = .ok (.ifCond .eq 19, 3) := by decide +kernel
theorem dX5_meets_11 : decode cX5_meets 11 = .ok (.aload_n 0, 1) := by decide +kernel
theorem dX5_meets_12 : decode cX5_meets 12 = .ok (.getfield 10, 3) := by decide +kernel
theorem dX5_meets_15 : decode cX5_meets 15 = .ok (.iload_n 2, 1) := by decide +kernel
theorem dX5_meets_16 : decode cX5_meets 16 = .ok (.invokevirtual 131, 3) := by decide +kernel
theorem dX5_meets_19 : decode cX5_meets 19 = .ok (.ifCond .eq 8, 3) := by decide +kernel
theorem dX5_meets_22 : decode cX5_meets 22 = .ok (.iload_n 1, 1) := by decide +kernel
theorem dX5_meets_23 : decode cX5_meets 23 = .ok (.iload_n 2, 1) := by decide +kernel
theorem dX5_meets_24 : decode cX5_meets 24 = .ok (.if_icmp .ne 5, 3) := by decide +kernel
theorem dX5_meets_27 : decode cX5_meets 27 = .ok (.iconst (-1), 1) := by decide +kernel
theorem dX5_meets_28 : decode cX5_meets 28 = .ok (.ireturn, 1) := by decide +kernel
theorem dX5_meets_29 : decode cX5_meets 29 = .ok (.aload_n 0, 1) := by decide +kernel
theorem dX5_meets_30 : decode cX5_meets 30 = .ok (.iload_n 1, 1) := by decide +kernel
theorem dX5_meets_31 : decode cX5_meets 31 = .ok (.bipush 60, 2) := by decide +kernel
theorem dX5_meets_33 : decode cX5_meets 33 = .ok (.aload_n 0, 1) := by decide +kernel
theorem dX5_meets_34 : decode cX5_meets 34 = .ok (.getfield 52, 3) := by decide +kernel
theorem dX5_meets_37 : decode cX5_meets 37 = .ok (.invokevirtual 199, 3) := by decide +kernel
theorem dX5_meets_40 : decode cX5_meets 40 = .ok (.aload_n 0, 1) := by decide +kernel
theorem dX5_meets_41 : decode cX5_meets 41 = .ok (.iload_n 2, 1) := by decide +kernel
theorem dX5_meets_42 : decode cX5_meets 42 = .ok (.bipush 60, 2) := by decide +kernel
theorem dX5_meets_44 : decode cX5_meets 44 = .ok (.aload_n 0, 1) := by decide +kernel
theorem dX5_meets_45 : decode cX5_meets 45 = .ok (.getfield 55, 3) := by decide +kernel
theorem dX5_meets_48 : decode cX5_meets 48 = .ok (.invokevirtual 199, 3) := by decide +kernel
theorem dX5_meets_51 : decode cX5_meets 51 = .ok (.iconst 0, 1) := by decide +kernel
theorem dX5_meets_52 : decode cX5_meets 52 = .ok (.istore_n 3, 1) := by decide +kernel
theorem dX5_meets_53 : decode cX5_meets 53 = .ok (.iload_n 3, 1) := by decide +kernel
theorem dX5_meets_54 : decode cX5_meets 54 = .ok (.bipush 60, 2) := by decide +kernel
theorem dX5_meets_56 : decode cX5_meets 56 = .ok (.if_icmp .gt 26, 3) := by decide +kernel
theorem dX5_meets_59 : decode cX5_meets 59 = .ok (.aload_n 0, 1) := by decide +kernel
theorem dX5_meets_60 : decode cX5_meets 60 = .ok (.getfield 52, 3) := by decide +kernel
theorem dX5_meets_63 : decode cX5_meets 63 = .ok (.iload_n 3, 1) := by decide +kernel
theorem dX5_meets_64 : decode cX5_meets 64 = .ok (.iaload, 1) := by decide +kernel
theorem dX5_meets_65 : decode cX5_meets 65 = .ok (.aload_n 0, 1) := by decide +kernel
theorem dX5_meets_66 : decode cX5_meets 66 = .ok (.getfield 55, 3) := by decide +kernel
theorem dX5_meets_69 : decode cX5_meets 69 = .ok (.iload_n 3, 1) := by decide +kernel
theorem dX5_meets_70 : decode cX5_meets 70 = .ok (.iaload, 1) := by decide +kernel
theorem dX5_meets_71 : decode cX5_meets 71 = .ok (.if_icmp .ne 5, 3) := by decide +kernel
theorem dX5_meets_74 : decode cX5_meets 74 = .ok (.iload_n 3, 1) := by decide +kernel
theorem dX5_meets_75 : decode cX5_meets 75 = .ok (.ireturn, 1) := by decide +kernel
theorem dX5_meets_76 : decode cX5_meets 76 = .ok (.iinc 3 1, 3) := by decide +kernel
theorem dX5_meets_79 : decode cX5_meets 79 = .ok (.goto (-26), 3) := by decide +kernel
theorem dX5_meets_82 : decode cX5_meets 82 = .ok (.bipush (-3), 2) := by decide +kernel
theorem dX5_meets_84 : decode cX5_meets 84 = .ok (.ireturn, 1) := by decide +kernel
theorem dX5_told_0 : decode cX5_told 0 = .ok (.aload_n 0, 1) := by decide +kernel
theorem dX5_told_1 : decode cX5_told 1 = .ok (.getfield 10, 3) := by decide +kernel
theorem dX5_told_4 : decode cX5_told 4 = .ok (.iload_n 1, 1) := by decide +kernel
theorem dX5_told_5 : decode cX5_told 5 = .ok (.invokevirtual 131, 3) := by decide +kernel
theorem dX5_told_8 : decode cX5_told 8 = .ok (.ifCond .ne 5, 3) := by decide +kernel
theorem dX5_told_11 : decode cX5_told 11 = .ok (.iconst (-1), 1) := by decide +kernel
theorem dX5_told_12 : decode cX5_told 12 = .ok (.ireturn, 1) := by decide +kernel
theorem dX5_told_13 : decode cX5_told 13 = .ok (.aload_n 0, 1) := by decide +kernel
theorem dX5_told_14 : decode cX5_told 14 = .ok (.iload_n 1, 1) := by decide +kernel
theorem dX5_told_15 : decode cX5_told 15 = .ok (.bipush 60, 2) := by decide +kernel
theorem dX5_told_17 : decode cX5_told 17 = .ok (.aload_n 0, 1) := by decide +kernel
theorem dX5_told_18 : decode cX5_told 18 = .ok (.getfield 52, 3) := by decide +kernel
theorem dX5_told_21 : decode cX5_told 21 = .ok (.invokevirtual 199, 3) := by decide +kernel
theorem dX5_told_24 : decode cX5_told 24 = .ok (.aload_n 0, 1) := by decide +kernel
theorem dX5_told_25 : decode cX5_told 25 = .ok (.getfield 19, 3) := by decide +kernel
theorem dX5_told_28 : decode cX5_told 28 = .ok (.aload_n 0, 1) := by decide +kernel
theorem dX5_told_29 : decode cX5_told 29 = .ok (.getfield 10, 3) := by decide +kernel
theorem dX5_told_32 : decode cX5_told 32 = .ok (.invokevirtual 98, 3) := by decide +kernel
theorem dX5_told_35 : decode cX5_told 35 = .ok (.aload_n 0, 1) := by decide +kernel
theorem dX5_told_36 : decode cX5_told 36 = .ok (.getfield 19, 3) := by decide +kernel
theorem dX5_told_39 : decode cX5_told 39 = .ok (.getfield 134, 3) := by decide +kernel
theorem dX5_told_42 : decode cX5_told 42 = .ok (.iload_n 1, 1) := by decide +kernel
theorem dX5_told_43 : decode cX5_told 43 = .ok (.iconst 0, 1) := by decide +kernel
theorem dX5_told_44 : decode cX5_told 44 = .ok (.iastore, 1) := by decide +kernel
theorem dX5_told_45 : decode cX5_told 45 = .ok (.aload_n 0, 1) := by decide +kernel
theorem dX5_told_46 : decode cX5_told 46 = .ok (.getfield 19, 3) := by decide +kernel
theorem dX5_told_49 : decode cX5_told 49 = .ok (.iload_n 1, 1) := by decide +kernel
theorem dX5_told_50 : decode cX5_told 50 = .ok (.bipush 60, 2) := by decide +kernel
theorem dX5_told_52 : decode cX5_told 52 = .ok (.aload_n 0, 1) := by decide +kernel
theorem dX5_told_53 : decode cX5_told 53 = .ok (.getfield 55, 3) := by decide +kernel
theorem dX5_told_56 : decode cX5_told 56 = .ok (.invokevirtual 203, 3) := by decide +kernel
theorem dX5_told_59 : decode cX5_told 59 = .ok (.iconst 0, 1) := by decide +kernel
theorem dX5_told_60 : decode cX5_told 60 = .ok (.istore_n 2, 1) := by decide +kernel
theorem dX5_told_61 : decode cX5_told 61 = .ok (.iload_n 2, 1) := by decide +kernel
theorem dX5_told_62 : decode cX5_told 62 = .ok (.bipush 60, 2) := by decide +kernel
theorem dX5_told_64 : decode cX5_told 64 = .ok (.if_icmp .gt 26, 3) := by decide +kernel
theorem dX5_told_67 : decode cX5_told 67 = .ok (.aload_n 0, 1) := by decide +kernel
theorem dX5_told_68 : decode cX5_told 68 = .ok (.getfield 52, 3) := by decide +kernel
theorem dX5_told_71 : decode cX5_told 71 = .ok (.iload_n 2, 1) := by decide +kernel
theorem dX5_told_72 : decode cX5_told 72 = .ok (.iaload, 1) := by decide +kernel
theorem dX5_told_73 : decode cX5_told 73 = .ok (.aload_n 0, 1) := by decide +kernel
theorem dX5_told_74 : decode cX5_told 74 = .ok (.getfield 55, 3) := by decide +kernel
theorem dX5_told_77 : decode cX5_told 77 = .ok (.iload_n 2, 1) := by decide +kernel
theorem dX5_told_78 : decode cX5_told 78 = .ok (.iaload, 1) := by decide +kernel
theorem dX5_told_79 : decode cX5_told 79 = .ok (.if_icmp .eq 5, 3) := by decide +kernel
theorem dX5_told_82 : decode cX5_told 82 = .ok (.iload_n 2, 1) := by decide +kernel
theorem dX5_told_83 : decode cX5_told 83 = .ok (.ireturn, 1) := by decide +kernel
theorem dX5_told_84 : decode cX5_told 84 = .ok (.iinc 2 1, 3) := by decide +kernel
theorem dX5_told_87 : decode cX5_told 87 = .ok (.goto (-26), 3) := by decide +kernel
theorem dX5_told_90 : decode cX5_told 90 = .ok (.bipush (-3), 2) := by decide +kernel
theorem dX5_told_92 : decode cX5_told 92 = .ok (.ireturn, 1) := by decide +kernel
theorem dX5_off_0 : decode cX5_off 0 = .ok (.aload_n 0, 1) := by decide +kernel
theorem dX5_off_1 : decode cX5_off 1 = .ok (.getfield 10, 3) := by decide +kernel
theorem dX5_off_4 : decode cX5_off 4 = .ok (.iload_n 1, 1) := by decide +kernel
theorem dX5_off_5 : decode cX5_off 5 = .ok (.invokevirtual 131, 3) := by decide +kernel
theorem dX5_off_8 : decode cX5_off 8 = .ok (.ifCond .eq 13, 3) := by decide +kernel
theorem dX5_off_11 : decode cX5_off 11 = .ok (.iload_n 2, 1) := by decide +kernel
theorem dX5_off_12 : decode cX5_off 12 = .ok (.iconst 0, 1) := by decide +kernel
theorem dX5_off_13 : decode cX5_off 13 = .ok (.bipush 60, 2) := by decide +kernel
theorem dX5_off_15 : decode cX5_off 15 = .ok (.invokestatic 77, 3) := by decide +kernel
theorem dX5_off_18 : decode cX5_off 18 = .ok (.ifCond .ne 5, 3) := by decide +kernel
theorem dX5_off_21 : decode cX5_off 21 = .ok (.iconst (-1), 1) := by decide +kernel
theorem dX5_off_22 : decode cX5_off 22 = .ok (.ireturn, 1) := by decide +kernel
theorem dX5_off_23 : decode cX5_off 23 = .ok (.aload_n 0, 1) := by decide +kernel
theorem dX5_off_24 : decode cX5_off 24 = .ok (.getfield 19, 3) := by decide +kernel
theorem dX5_off_27 : decode cX5_off 27 = .ok (.aload_n 0, 1) := by decide +kernel
theorem dX5_off_28 : decode cX5_off 28 = .ok (.getfield 10, 3) := by decide +kernel
theorem dX5_off_31 : decode cX5_off 31 = .ok (.invokevirtual 98, 3) := by decide +kernel
theorem dX5_off_34 : decode cX5_off 34 = .ok (.aload_n 0, 1) := by decide +kernel
theorem dX5_off_35 : decode cX5_off 35 = .ok (.iload_n 1, 1) := by decide +kernel
theorem dX5_off_36 : decode cX5_off 36 = .ok (.iload_n 2, 1) := by decide +kernel
theorem dX5_off_37 : decode cX5_off 37 = .ok (.invokevirtual 206, 3) := by decide +kernel
theorem dX5_off_40 : decode cX5_off 40 = .ok (.ireturn, 1) := by decide +kernel
theorem dX5_windFor_0 : decode cX5_windFor 0 = .ok (.aload_n 0, 1) := by decide +kernel
theorem dX5_windFor_1 : decode cX5_windFor 1 = .ok (.getfield 10, 3) := by decide +kernel
theorem dX5_windFor_4 : decode cX5_windFor 4 = .ok (.iload_n 1, 1) := by decide +kernel
theorem dX5_windFor_5 : decode cX5_windFor 5 = .ok (.invokevirtual 131, 3) := by decide +kernel
theorem dX5_windFor_8 : decode cX5_windFor 8 = .ok (.ifCond .eq 13, 3) := by decide +kernel
theorem dX5_windFor_11 : decode cX5_windFor 11 = .ok (.iload_n 2, 1) := by decide +kernel
theorem dX5_windFor_12 : decode cX5_windFor 12 = .ok (.iconst 1, 1) := by decide +kernel
theorem dX5_windFor_13 : decode cX5_windFor 13 = .ok (.bipush 30, 2) := by decide +kernel
theorem dX5_windFor_15 : decode cX5_windFor 15 = .ok (.invokestatic 77, 3) := by decide +kernel
theorem dX5_windFor_18 : decode cX5_windFor 18 = .ok (.ifCond .ne 5, 3) := by decide +kernel
theorem dX5_windFor_21 : decode cX5_windFor 21 = .ok (.iconst (-1), 1) := by decide +kernel
theorem dX5_windFor_22 : decode cX5_windFor 22 = .ok (.ireturn, 1) := by decide +kernel
theorem dX5_windFor_23 : decode cX5_windFor 23 = .ok (.iconst 0, 1) := by decide +kernel
theorem dX5_windFor_24 : decode cX5_windFor 24 = .ok (.istore_n 3, 1) := by decide +kernel
theorem dX5_windFor_25 : decode cX5_windFor 25 = .ok (.bipush 16, 2) := by decide +kernel
theorem dX5_windFor_27 : decode cX5_windFor 27 = .ok (.istore 4, 2) := by decide +kernel
theorem dX5_windFor_29 : decode cX5_windFor 29 = .ok (.iconst 0, 1) := by decide +kernel
theorem dX5_windFor_30 : decode cX5_windFor 30 = .ok (.istore 5, 2) := by decide +kernel
theorem dX5_windFor_32 : decode cX5_windFor 32 = .ok (.iload 5, 2) := by decide +kernel
theorem dX5_windFor_34 : decode cX5_windFor 34 = .ok (.iconst 4, 1) := by decide +kernel
theorem dX5_windFor_35 : decode cX5_windFor 35 = .ok (.if_icmp .ge 51, 3) := by decide +kernel
theorem dX5_windFor_38 : decode cX5_windFor 38 = .ok (.aload_n 0, 1) := by decide +kernel
theorem dX5_windFor_39 : decode cX5_windFor 39 = .ok (.getfield 19, 3) := by decide +kernel
theorem dX5_windFor_42 : decode cX5_windFor 42 = .ok (.aload_n 0, 1) := by decide +kernel
theorem dX5_windFor_43 : decode cX5_windFor 43 = .ok (.getfield 10, 3) := by decide +kernel
theorem dX5_windFor_46 : decode cX5_windFor 46 = .ok (.invokevirtual 98, 3) := by decide +kernel
theorem dX5_windFor_49 : decode cX5_windFor 49 = .ok (.aload_n 0, 1) := by decide +kernel
theorem dX5_windFor_50 : decode cX5_windFor 50 = .ok (.getfield 19, 3) := by decide +kernel
theorem dX5_windFor_53 : decode cX5_windFor 53 = .ok (.iload 5, 2) := by decide +kernel
theorem dX5_windFor_55 : decode cX5_windFor 55 = .ok (.putfield 153, 3) := by decide +kernel
theorem dX5_windFor_58 : decode cX5_windFor 58 = .ok (.aload_n 0, 1) := by decide +kernel
theorem dX5_windFor_59 : decode cX5_windFor 59 = .ok (.iload_n 1, 1) := by decide +kernel
theorem dX5_windFor_60 : decode cX5_windFor 60 = .ok (.iload_n 2, 1) := by decide +kernel
theorem dX5_windFor_61 : decode cX5_windFor 61 = .ok (.invokevirtual 206, 3) := by decide +kernel
theorem dX5_windFor_64 : decode cX5_windFor 64 = .ok (.istore 6, 2) := by decide +kernel
theorem dX5_windFor_66 : decode cX5_windFor 66 = .ok (.iload 6, 2) := by decide +kernel
theorem dX5_windFor_68 : decode cX5_windFor 68 = .ok (.iload 4, 2) := by decide +kernel
theorem dX5_windFor_70 : decode cX5_windFor 70 = .ok (.if_icmp .ge 10, 3) := by decide +kernel
theorem dX5_windFor_73 : decode cX5_windFor 73 = .ok (.iload 6, 2) := by decide +kernel
theorem dX5_windFor_75 : decode cX5_windFor 75 = .ok (.istore 4, 2) := by decide +kernel
theorem dX5_windFor_77 : decode cX5_windFor 77 = .ok (.iload 5, 2) := by decide +kernel
theorem dX5_windFor_79 : decode cX5_windFor 79 = .ok (.istore_n 3, 1) := by decide +kernel
theorem dX5_windFor_80 : decode cX5_windFor 80 = .ok (.iinc 5 1, 3) := by decide +kernel
theorem dX5_windFor_83 : decode cX5_windFor 83 = .ok (.goto (-51), 3) := by decide +kernel
theorem dX5_windFor_86 : decode cX5_windFor 86 = .ok (.iload_n 3, 1) := by decide +kernel
theorem dX5_windFor_87 : decode cX5_windFor 87 = .ok (.ireturn, 1) := by decide +kernel
theorem dX5_kindFor_0 : decode cX5_kindFor 0 = .ok (.aload_n 0, 1) := by decide +kernel
theorem dX5_kindFor_1 : decode cX5_kindFor 1 = .ok (.getfield 10, 3) := by decide +kernel
theorem dX5_kindFor_4 : decode cX5_kindFor 4 = .ok (.iload_n 1, 1) := by decide +kernel
theorem dX5_kindFor_5 : decode cX5_kindFor 5 = .ok (.invokevirtual 131, 3) := by decide +kernel
theorem dX5_kindFor_8 : decode cX5_kindFor 8 = .ok (.ifCond .eq 13, 3) := by decide +kernel
theorem dX5_kindFor_11 : decode cX5_kindFor 11 = .ok (.iload_n 2, 1) := by decide +kernel
theorem dX5_kindFor_12 : decode cX5_kindFor 12 = .ok (.iconst 1, 1) := by decide +kernel
theorem dX5_kindFor_13 : decode cX5_kindFor 13 = .ok (.bipush 30, 2) := by decide +kernel
theorem dX5_kindFor_15 : decode cX5_kindFor 15 = .ok (.invokestatic 77, 3) := by decide +kernel
theorem dX5_kindFor_18 : decode cX5_kindFor 18 = .ok (.ifCond .ne 5, 3) := by decide +kernel
theorem dX5_kindFor_21 : decode cX5_kindFor 21 = .ok (.iconst (-1), 1) := by decide +kernel
theorem dX5_kindFor_22 : decode cX5_kindFor 22 = .ok (.ireturn, 1) := by decide +kernel
theorem dX5_kindFor_23 : decode cX5_kindFor 23 = .ok (.iconst 0, 1) := by decide +kernel
theorem dX5_kindFor_24 : decode cX5_kindFor 24 = .ok (.istore_n 3, 1) := by decide +kernel
theorem dX5_kindFor_25 : decode cX5_kindFor 25 = .ok (.bipush 16, 2) := by decide +kernel
theorem dX5_kindFor_27 : decode cX5_kindFor 27 = .ok (.istore 4, 2) := by decide +kernel
theorem dX5_kindFor_29 : decode cX5_kindFor 29 = .ok (.iconst 0, 1) := by decide +kernel
theorem dX5_kindFor_30 : decode cX5_kindFor 30 = .ok (.istore 5, 2) := by decide +kernel
theorem dX5_kindFor_32 : decode cX5_kindFor 32 = .ok (.iload 5, 2) := by decide +kernel
theorem dX5_kindFor_34 : decode cX5_kindFor 34 = .ok (.bipush 6, 2) := by decide +kernel
theorem dX5_kindFor_36 : decode cX5_kindFor 36 = .ok (.if_icmp .ge 53, 3) := by decide +kernel
theorem dX5_kindFor_39 : decode cX5_kindFor 39 = .ok (.aload_n 0, 1) := by decide +kernel
theorem dX5_kindFor_40 : decode cX5_kindFor 40 = .ok (.getfield 19, 3) := by decide +kernel
theorem dX5_kindFor_43 : decode cX5_kindFor 43 = .ok (.aload_n 0, 1) := by decide +kernel
theorem dX5_kindFor_44 : decode cX5_kindFor 44 = .ok (.getfield 10, 3) := by decide +kernel
theorem dX5_kindFor_47 : decode cX5_kindFor 47 = .ok (.invokevirtual 98, 3) := by decide +kernel
theorem dX5_kindFor_50 : decode cX5_kindFor 50 = .ok (.aload_n 0, 1) := by decide +kernel
theorem dX5_kindFor_51 : decode cX5_kindFor 51 = .ok (.getfield 19, 3) := by decide +kernel
theorem dX5_kindFor_54 : decode cX5_kindFor 54 = .ok (.getfield 134, 3) := by decide +kernel
theorem dX5_kindFor_57 : decode cX5_kindFor 57 = .ok (.iload_n 1, 1) := by decide +kernel
theorem dX5_kindFor_58 : decode cX5_kindFor 58 = .ok (.iload 5, 2) := by decide +kernel
theorem dX5_kindFor_60 : decode cX5_kindFor 60 = .ok (.iastore, 1) := by decide +kernel
theorem dX5_kindFor_61 : decode cX5_kindFor 61 = .ok (.aload_n 0, 1) := by decide +kernel
theorem dX5_kindFor_62 : decode cX5_kindFor 62 = .ok (.iload_n 1, 1) := by decide +kernel
theorem dX5_kindFor_63 : decode cX5_kindFor 63 = .ok (.iload_n 2, 1) := by decide +kernel
theorem dX5_kindFor_64 : decode cX5_kindFor 64 = .ok (.invokevirtual 206, 3) := by decide +kernel
theorem dX5_kindFor_67 : decode cX5_kindFor 67 = .ok (.istore 6, 2) := by decide +kernel
theorem dX5_kindFor_69 : decode cX5_kindFor 69 = .ok (.iload 6, 2) := by decide +kernel
theorem dX5_kindFor_71 : decode cX5_kindFor 71 = .ok (.iload 4, 2) := by decide +kernel
theorem dX5_kindFor_73 : decode cX5_kindFor 73 = .ok (.if_icmp .ge 10, 3) := by decide +kernel
theorem dX5_kindFor_76 : decode cX5_kindFor 76 = .ok (.iload 6, 2) := by decide +kernel
theorem dX5_kindFor_78 : decode cX5_kindFor 78 = .ok (.istore 4, 2) := by decide +kernel
theorem dX5_kindFor_80 : decode cX5_kindFor 80 = .ok (.iload 5, 2) := by decide +kernel
theorem dX5_kindFor_82 : decode cX5_kindFor 82 = .ok (.istore_n 3, 1) := by decide +kernel
theorem dX5_kindFor_83 : decode cX5_kindFor 83 = .ok (.iinc 5 1, 3) := by decide +kernel
theorem dX5_kindFor_86 : decode cX5_kindFor 86 = .ok (.goto (-54), 3) := by decide +kernel
theorem dX5_kindFor_89 : decode cX5_kindFor 89 = .ok (.iload_n 3, 1) := by decide +kernel
theorem dX5_kindFor_90 : decode cX5_kindFor 90 = .ok (.ireturn, 1) := by decide +kernel
theorem dX5_seen_0 : decode cX5_seen 0 = .ok (.iload_n 1, 1) := by decide +kernel
theorem dX5_seen_1 : decode cX5_seen 1 = .ok (.iconst 0, 1) := by decide +kernel
theorem dX5_seen_2 : decode cX5_seen 2 = .ok (.bipush 30, 2) := by decide +kernel
theorem dX5_seen_4 : decode cX5_seen 4 = .ok (.invokestatic 77, 3) := by decide +kernel
theorem dX5_seen_7 : decode cX5_seen 7 = .ok (.ifCond .ne 5, 3) := by decide +kernel
theorem dX5_seen_10 : decode cX5_seen 10 = .ok (.iconst (-1), 1) := by decide +kernel
theorem dX5_seen_11 : decode cX5_seen 11 = .ok (.ireturn, 1) := by decide +kernel
theorem dX5_seen_12 : decode cX5_seen 12 = .ok (.aload_n 0, 1) := by decide +kernel
theorem dX5_seen_13 : decode cX5_seen 13 = .ok (.getfield 61, 3) := by decide +kernel
theorem dX5_seen_16 : decode cX5_seen 16 = .ok (.iconst 0, 1) := by decide +kernel
theorem dX5_seen_17 : decode cX5_seen 17 = .ok (.invokestatic 210, 3) := by decide +kernel
theorem dX5_seen_20 : decode cX5_seen 20 = .ok (.iconst 0, 1) := by decide +kernel
theorem dX5_seen_21 : decode cX5_seen 21 = .ok (.istore_n 2, 1) := by decide +kernel
theorem dX5_seen_22 : decode cX5_seen 22 = .ok (.iload_n 2, 1) := by decide +kernel
theorem dX5_seen_23 : decode cX5_seen 23 = .ok (.aload_n 0, 1) := by decide +kernel
theorem dX5_seen_24 : decode cX5_seen 24 = .ok (.getfield 10, 3) := by decide +kernel
theorem dX5_seen_27 : decode cX5_seen 27 = .ok (.getfield 102, 3) := by decide +kernel
theorem dX5_seen_30 : decode cX5_seen 30 = .ok (.if_icmp .ge 49, 3) := by decide +kernel
theorem dX5_seen_33 : decode cX5_seen 33 = .ok (.aload_n 0, 1) := by decide +kernel
theorem dX5_seen_34 : decode cX5_seen 34 = .ok (.iload_n 2, 1) := by decide +kernel
theorem dX5_seen_35 : decode cX5_seen 35 = .ok (.iload_n 1, 1) := by decide +kernel
theorem dX5_seen_36 : decode cX5_seen 36 = .ok (.aload_n 0, 1) := by decide +kernel
theorem dX5_seen_37 : decode cX5_seen 37 = .ok (.getfield 52, 3) := by decide +kernel
theorem dX5_seen_40 : decode cX5_seen 40 = .ok (.invokevirtual 199, 3) := by decide +kernel
theorem dX5_seen_43 : decode cX5_seen 43 = .ok (.iconst 0, 1) := by decide +kernel
theorem dX5_seen_44 : decode cX5_seen 44 = .ok (.istore_n 3, 1) := by decide +kernel
theorem dX5_seen_45 : decode cX5_seen 45 = .ok (.iload_n 3, 1) := by decide +kernel
theorem dX5_seen_46 : decode cX5_seen 46 = .ok (.iload_n 1, 1) := by decide +kernel
theorem dX5_seen_47 : decode cX5_seen 47 = .ok (.if_icmp .gt 26, 3) := by decide +kernel
theorem dX5_seen_50 : decode cX5_seen 50 = .ok (.aload_n 0, 1) := by decide +kernel
theorem dX5_seen_51 : decode cX5_seen 51 = .ok (.getfield 61, 3) := by decide +kernel
theorem dX5_seen_54 : decode cX5_seen 54 = .ok (.aload_n 0, 1) := by decide +kernel
theorem dX5_seen_55 : decode cX5_seen 55 = .ok (.getfield 52, 3) := by decide +kernel
theorem dX5_seen_58 : decode cX5_seen 58 = .ok (.iload_n 3, 1) := by decide +kernel
theorem dX5_seen_59 : decode cX5_seen 59 = .ok (.iaload, 1) := by decide +kernel
theorem dX5_seen_60 : decode cX5_seen 60 = .ok (.dup2, 1) := by decide +kernel
theorem dX5_seen_61 : decode cX5_seen 61 = .ok (.iaload, 1) := by decide +kernel
theorem dX5_seen_62 : decode cX5_seen 62 = .ok (.iconst 1, 1) := by decide +kernel
theorem dX5_seen_63 : decode cX5_seen 63 = .ok (.iload_n 2, 1) := by decide +kernel
theorem dX5_seen_64 : decode cX5_seen 64 = .ok (.ishl, 1) := by decide +kernel
theorem dX5_seen_65 : decode cX5_seen 65 = .ok (.ior, 1) := by decide +kernel
theorem dX5_seen_66 : decode cX5_seen 66 = .ok (.iastore, 1) := by decide +kernel
theorem dX5_seen_67 : decode cX5_seen 67 = .ok (.iinc 3 1, 3) := by decide +kernel
theorem dX5_seen_70 : decode cX5_seen 70 = .ok (.goto (-25), 3) := by decide +kernel
theorem dX5_seen_73 : decode cX5_seen 73 = .ok (.iinc 2 1, 3) := by decide +kernel
theorem dX5_seen_76 : decode cX5_seen 76 = .ok (.goto (-54), 3) := by decide +kernel
theorem dX5_seen_79 : decode cX5_seen 79 = .ok (.aload_n 0, 1) := by decide +kernel
theorem dX5_seen_80 : decode cX5_seen 80 = .ok (.iconst 1, 1) := by decide +kernel
theorem dX5_seen_81 : decode cX5_seen 81 = .ok (.aload_n 0, 1) := by decide +kernel
theorem dX5_seen_82 : decode cX5_seen 82 = .ok (.getfield 10, 3) := by decide +kernel
theorem dX5_seen_85 : decode cX5_seen 85 = .ok (.getfield 102, 3) := by decide +kernel
theorem dX5_seen_88 : decode cX5_seen 88 = .ok (.ishl, 1) := by decide +kernel
theorem dX5_seen_89 : decode cX5_seen 89 = .ok (.iconst 1, 1) := by decide +kernel
theorem dX5_seen_90 : decode cX5_seen 90 = .ok (.isub, 1) := by decide +kernel
theorem dX5_seen_91 : decode cX5_seen 91 = .ok (.invokevirtual 216, 3) := by decide +kernel
theorem dX5_seen_94 : decode cX5_seen 94 = .ok (.ireturn, 1) := by decide +kernel
theorem dX5_dryWay_0 : decode cX5_dryWay 0 = .ok (.iload_n 1, 1) := by decide +kernel
theorem dX5_dryWay_1 : decode cX5_dryWay 1 = .ok (.invokestatic 124, 3) := by decide +kernel
theorem dX5_dryWay_4 : decode cX5_dryWay 4 = .ok (.ifCond .eq 10, 3) := by decide +kernel
theorem dX5_dryWay_7 : decode cX5_dryWay 7 = .ok (.iload_n 2, 1) := by decide +kernel
theorem dX5_dryWay_8 : decode cX5_dryWay 8 = .ok (.invokestatic 124, 3) := by decide +kernel
theorem dX5_dryWay_11 : decode cX5_dryWay 11 = .ok (.ifCond .ne 5, 3) := by decide +kernel
theorem dX5_dryWay_14 : decode cX5_dryWay 14 = .ok (.iconst (-1), 1) := by decide +kernel
theorem dX5_dryWay_15 : decode cX5_dryWay 15 = .ok (.ireturn, 1) := by decide +kernel
theorem dX5_dryWay_16 : decode cX5_dryWay 16 = .ok (.ldc 219, 2) := by decide +kernel
theorem dX5_dryWay_18 : decode cX5_dryWay 18 = .ok (.aload_n 0, 1) := by decide +kernel
theorem dX5_dryWay_19 : decode cX5_dryWay 19 = .ok (.getfield 10, 3) := by decide +kernel
theorem dX5_dryWay_22 : decode cX5_dryWay 22 = .ok (.aload_n 0, 1) := by decide +kernel
theorem dX5_dryWay_23 : decode cX5_dryWay 23 = .ok (.getfield 10, 3) := by decide +kernel
theorem dX5_dryWay_26 : decode cX5_dryWay 26 = .ok (.getfield 115, 3) := by decide +kernel
theorem dX5_dryWay_29 : decode cX5_dryWay 29 = .ok (.iconst 1, 1) := by decide +kernel
theorem dX5_dryWay_30 : decode cX5_dryWay 30 = .ok (.iaload, 1) := by decide +kernel
theorem dX5_dryWay_31 : decode cX5_dryWay 31 = .ok (.invokevirtual 196, 3) := by decide +kernel
theorem dX5_dryWay_34 : decode cX5_dryWay 34 = .ok (.iconst (-1), 1) := by decide +kernel
theorem dX5_dryWay_35 : decode cX5_dryWay 35 = .ok (.ixor, 1) := by decide +kernel
theorem dX5_dryWay_36 : decode cX5_dryWay 36 = .ok (.iand, 1) := by decide +kernel
theorem dX5_dryWay_37 : decode cX5_dryWay 37 = .ok (.istore_n 3, 1) := by decide +kernel
theorem dX5_dryWay_38 : decode cX5_dryWay 38 = .ok (.iconst 1, 1) := by decide +kernel
theorem dX5_dryWay_39 : decode cX5_dryWay 39 = .ok (.iload_n 1, 1) := by decide +kernel
theorem dX5_dryWay_40 : decode cX5_dryWay 40 = .ok (.ishl, 1) := by decide +kernel
theorem dX5_dryWay_41 : decode cX5_dryWay 41 = .ok (.iload_n 3, 1) := by decide +kernel
theorem dX5_dryWay_42 : decode cX5_dryWay 42 = .ok (.iand, 1) := by decide +kernel
theorem dX5_dryWay_43 : decode cX5_dryWay 43 = .ok (.istore 4, 2) := by decide +kernel
theorem dX5_dryWay_45 : decode cX5_dryWay 45 = .ok (.iconst 0, 1) := by decide +kernel
theorem dX5_dryWay_46 : decode cX5_dryWay 46 = .ok (.istore 5, 2) := by decide +kernel
theorem dX5_dryWay_48 : decode cX5_dryWay 48 = .ok (.iload 5, 2) := by decide +kernel
theorem dX5_dryWay_50 : decode cX5_dryWay 50 = .ok (.bipush 16, 2) := by decide +kernel
theorem dX5_dryWay_52 : decode cX5_dryWay 52 = .ok (.if_icmp .ge 30, 3) := by decide +kernel
theorem dX5_dryWay_55 : decode cX5_dryWay 55 = .ok (.iload 4, 2) := by decide +kernel
theorem dX5_dryWay_57 : decode cX5_dryWay 57 = .ok (.iload_n 2, 1) := by decide +kernel
theorem dX5_dryWay_58 : decode cX5_dryWay 58 = .ok (.invokestatic 220, 3) := by decide +kernel
theorem dX5_dryWay_61 : decode cX5_dryWay 61 = .ok (.ifCond .eq 6, 3) := by decide +kernel
theorem dX5_dryWay_64 : decode cX5_dryWay 64 = .ok (.iload 5, 2) := by decide +kernel
theorem dX5_dryWay_66 : decode cX5_dryWay 66 = .ok (.ireturn, 1) := by decide +kernel
theorem dX5_dryWay_67 : decode cX5_dryWay 67 = .ok (.iload 4, 2) := by decide +kernel
theorem dX5_dryWay_69 : decode cX5_dryWay 69 = .ok (.invokestatic 224, 3) := by decide +kernel
theorem dX5_dryWay_72 : decode cX5_dryWay 72 = .ok (.iload_n 3, 1) := by decide +kernel
theorem dX5_dryWay_73 : decode cX5_dryWay 73 = .ok (.iand, 1) := by decide +kernel
theorem dX5_dryWay_74 : decode cX5_dryWay 74 = .ok (.istore 4, 2) := by decide +kernel
theorem dX5_dryWay_76 : decode cX5_dryWay 76 = .ok (.iinc 5 1, 3) := by decide +kernel
theorem dX5_dryWay_79 : decode cX5_dryWay 79 = .ok (.goto (-31), 3) := by decide +kernel
theorem dX5_dryWay_82 : decode cX5_dryWay 82 = .ok (.bipush (-3), 2) := by decide +kernel
theorem dX5_dryWay_84 : decode cX5_dryWay 84 = .ok (.ireturn, 1) := by decide +kernel
theorem dX5_fits_0 : decode cX5_fits 0 = .ok (.aload_n 0, 1) := by decide +kernel
theorem dX5_fits_1 : decode cX5_fits 1 = .ok (.iload_n 1, 1) := by decide +kernel
theorem dX5_fits_2 : decode cX5_fits 2 = .ok (.invokevirtual 227, 3) := by decide +kernel
theorem dX5_fits_5 : decode cX5_fits 5 = .ok (.astore 4, 2) := by decide +kernel
theorem dX5_fits_7 : decode cX5_fits 7 = .ok (.aload 4, 2) := by decide +kernel
theorem dX5_fits_9 : decode cX5_fits 9 = .ok (.ifnull 23, 3) := by decide +kernel
theorem dX5_fits_12 : decode cX5_fits 12 = .ok (.aload_n 0, 1) := by decide +kernel
theorem dX5_fits_13 : decode cX5_fits 13 = .ok (.getfield 10, 3) := by decide +kernel
theorem dX5_fits_16 : decode cX5_fits 16 = .ok (.iload_n 2, 1) := by decide +kernel
theorem dX5_fits_17 : decode cX5_fits 17 = .ok (.invokevirtual 131, 3) := by decide +kernel
theorem dX5_fits_20 : decode cX5_fits 20 = .ok (.ifCond .eq 12, 3) := by decide +kernel
theorem dX5_fits_23 : decode cX5_fits 23 = .ok (.iload_n 3, 1) := by decide +kernel
theorem dX5_fits_24 : decode cX5_fits 24 = .ok (.iconst 0, 1) := by decide +kernel
theorem dX5_fits_25 : decode cX5_fits 25 = .ok (.iconst 1, 1) := by decide +kernel
theorem dX5_fits_26 : decode cX5_fits 26 = .ok (.invokestatic 77, 3) := by decide +kernel
theorem dX5_fits_29 : decode cX5_fits 29 = .ok (.ifCond .ne 5, 3) := by decide +kernel
theorem dX5_fits_32 : decode cX5_fits 32 = .ok (.iconst (-1), 1) := by decide +kernel
theorem dX5_fits_33 : decode cX5_fits 33 = .ok (.ireturn, 1) := by decide +kernel
theorem dX5_fits_34 : decode cX5_fits 34 = .ok (.aload 4, 2) := by decide +kernel
theorem dX5_fits_36 : decode cX5_fits 36 = .ok (.invokevirtual 231, 3) := by decide +kernel
theorem dX5_fits_39 : decode cX5_fits 39 = .ok (.ifCond .eq 6, 3) := by decide +kernel
theorem dX5_fits_42 : decode cX5_fits 42 = .ok (.bipush (-11), 2) := by decide +kernel
theorem dX5_fits_44 : decode cX5_fits 44 = .ok (.ireturn, 1) := by decide +kernel
theorem dX5_fits_45 : decode cX5_fits 45 = .ok (.iconst 0, 1) := by decide +kernel
theorem dX5_fits_46 : decode cX5_fits 46 = .ok (.istore 5, 2) := by decide +kernel
theorem dX5_fits_48 : decode cX5_fits 48 = .ok (.bipush (-3), 2) := by decide +kernel
theorem dX5_fits_50 : decode cX5_fits 50 = .ok (.istore 6, 2) := by decide +kernel
theorem dX5_fits_52 : decode cX5_fits 52 = .ok (.bipush 15, 2) := by decide +kernel
theorem dX5_fits_54 : decode cX5_fits 54 = .ok (.istore 7, 2) := by decide +kernel
theorem dX5_fits_56 : decode cX5_fits 56 = .ok (.iload 7, 2) := by decide +kernel
theorem dX5_fits_58 : decode cX5_fits 58 = .ok (.ifCond .lt 28, 3) := by decide +kernel
theorem dX5_fits_61 : decode cX5_fits 61 = .ok (.aload_n 0, 1) := by decide +kernel
theorem dX5_fits_62 : decode cX5_fits 62 = .ok (.iload 7, 2) := by decide +kernel
theorem dX5_fits_64 : decode cX5_fits 64 = .ok (.iload_n 2, 1) := by decide +kernel
theorem dX5_fits_65 : decode cX5_fits 65 = .ok (.aload 4, 2) := by decide +kernel
theorem dX5_fits_67 : decode cX5_fits 67 = .ok (.invokevirtual 235, 3) := by decide +kernel
theorem dX5_fits_70 : decode cX5_fits 70 = .ok (.ifCond .eq 10, 3) := by decide +kernel
theorem dX5_fits_73 : decode cX5_fits 73 = .ok (.iinc 5 1, 3) := by decide +kernel
theorem dX5_fits_76 : decode cX5_fits 76 = .ok (.iload 7, 2) := by decide +kernel
theorem dX5_fits_78 : decode cX5_fits 78 = .ok (.istore 6, 2) := by decide +kernel
theorem dX5_fits_80 : decode cX5_fits 80 = .ok (.iinc 7 (-1), 3) := by decide +kernel
theorem dX5_fits_83 : decode cX5_fits 83 = .ok (.goto (-27), 3) := by decide +kernel
theorem dX5_fits_86 : decode cX5_fits 86 = .ok (.iload_n 3, 1) := by decide +kernel
theorem dX5_fits_87 : decode cX5_fits 87 = .ok (.ifCond .ne 8, 3) := by decide +kernel
theorem dX5_fits_90 : decode cX5_fits 90 = .ok (.iload 5, 2) := by decide +kernel
theorem dX5_fits_92 : decode cX5_fits 92 = .ok (.goto 5, 3) := by decide +kernel
theorem dX5_fits_95 : decode cX5_fits 95 = .ok (.iload 6, 2) := by decide +kernel
theorem dX5_fits_97 : decode cX5_fits 97 = .ok (.ireturn, 1) := by decide +kernel
theorem dX5_odds_0 : decode cX5_odds 0 = .ok (.iload_n 1, 1) := by decide +kernel
theorem dX5_odds_1 : decode cX5_odds 1 = .ok (.iconst 0, 1) := by decide +kernel
theorem dX5_odds_2 : decode cX5_odds 2 = .ok (.bipush 8, 2) := by decide +kernel
theorem dX5_odds_4 : decode cX5_odds 4 = .ok (.invokestatic 77, 3) := by decide +kernel
theorem dX5_odds_7 : decode cX5_odds 7 = .ok (.ifCond .eq 21, 3) := by decide +kernel
theorem dX5_odds_10 : decode cX5_odds 10 = .ok (.iload_n 2, 1) := by decide +kernel
theorem dX5_odds_11 : decode cX5_odds 11 = .ok (.iconst 0, 1) := by decide +kernel
theorem dX5_odds_12 : decode cX5_odds 12 = .ok (.iload_n 1, 1) := by decide +kernel
theorem dX5_odds_13 : decode cX5_odds 13 = .ok (.invokestatic 77, 3) := by decide +kernel
theorem dX5_odds_16 : decode cX5_odds 16 = .ok (.ifCond .eq 12, 3) := by decide +kernel
theorem dX5_odds_19 : decode cX5_odds 19 = .ok (.iload_n 3, 1) := by decide +kernel
theorem dX5_odds_20 : decode cX5_odds 20 = .ok (.iconst 0, 1) := by decide +kernel
theorem dX5_odds_21 : decode cX5_odds 21 = .ok (.iconst 1, 1) := by decide +kernel
theorem dX5_odds_22 : decode cX5_odds 22 = .ok (.invokestatic 77, 3) := by decide +kernel
theorem dX5_odds_25 : decode cX5_odds 25 = .ok (.ifCond .ne 7, 3) := by decide +kernel
theorem dX5_odds_28 : decode cX5_odds 28 = .ok (.ldc2_w 239, 3) := by decide +kernel
theorem dX5_odds_31 : decode cX5_odds 31 = .ok (.lreturn, 1) := by decide +kernel
theorem dX5_odds_32 : decode cX5_odds 32 = .ok (.aload_n 0, 1) := by decide +kernel
theorem dX5_odds_33 : decode cX5_odds 33 = .ok (.getfield 10, 3) := by decide +kernel
theorem dX5_odds_36 : decode cX5_odds 36 = .ok (.getfield 115, 3) := by decide +kernel
theorem dX5_odds_39 : decode cX5_odds 39 = .ok (.iconst 3, 1) := by decide +kernel
theorem dX5_odds_40 : decode cX5_odds 40 = .ok (.iaload, 1) := by decide +kernel
theorem dX5_odds_41 : decode cX5_odds 41 = .ok (.istore 4, 2) := by decide +kernel
theorem dX5_odds_43 : decode cX5_odds 43 = .ok (.iload_n 1, 1) := by decide +kernel
theorem dX5_odds_44 : decode cX5_odds 44 = .ok (.iload_n 2, 1) := by decide +kernel
theorem dX5_odds_45 : decode cX5_odds 45 = .ok (.invokestatic 241, 3) := by decide +kernel
theorem dX5_odds_48 : decode cX5_odds 48 = .ok (.iload 4, 2) := by decide +kernel
theorem dX5_odds_50 : decode cX5_odds 50 = .ok (.i2l, 1) := by decide +kernel
theorem dX5_odds_51 : decode cX5_odds 51 = .ok (.iload_n 2, 1) := by decide +kernel
theorem dX5_odds_52 : decode cX5_odds 52 = .ok (.invokestatic 245, 3) := by decide +kernel
theorem dX5_odds_55 : decode cX5_odds 55 = .ok (.lmul, 1) := by decide +kernel
theorem dX5_odds_56 : decode cX5_odds 56 = .ok (.bipush 100, 2) := by decide +kernel
theorem dX5_odds_58 : decode cX5_odds 58 = .ok (.iload 4, 2) := by decide +kernel
theorem dX5_odds_60 : decode cX5_odds 60 = .ok (.isub, 1) := by decide +kernel
theorem dX5_odds_61 : decode cX5_odds 61 = .ok (.i2l, 1) := by decide +kernel
theorem dX5_odds_62 : decode cX5_odds 62 = .ok (.iload_n 1, 1) := by decide +kernel
theorem dX5_odds_63 : decode cX5_odds 63 = .ok (.iload_n 2, 1) := by decide +kernel
theorem dX5_odds_64 : decode cX5_odds 64 = .ok (.isub, 1) := by decide +kernel
theorem dX5_odds_65 : decode cX5_odds 65 = .ok (.invokestatic 245, 3) := by decide +kernel
theorem dX5_odds_68 : decode cX5_odds 68 = .ok (.lmul, 1) := by decide +kernel
theorem dX5_odds_69 : decode cX5_odds 69 = .ok (.lstore 5, 2) := by decide +kernel
theorem dX5_odds_71 : decode cX5_odds 71 = .ok (.lload 5, 2) := by decide +kernel
theorem dX5_odds_73 : decode cX5_odds 73 = .ok (.ldc2_w 249, 3) := by decide +kernel
theorem dX5_odds_76 : decode cX5_odds 76 = .ok (.iload_n 1, 1) := by decide +kernel
theorem dX5_odds_77 : decode cX5_odds 77 = .ok (.invokestatic 245, 3) := by decide +kernel
theorem dX5_odds_80 : decode cX5_odds 80 = .ok (.iload_n 3, 1) := by decide +kernel
theorem dX5_odds_81 : decode cX5_odds 81 = .ok (.invokestatic 251, 3) := by decide +kernel
theorem dX5_odds_84 : decode cX5_odds 84 = .ok (.lreturn, 1) := by decide +kernel
theorem dX5_hope_0 : decode cX5_hope 0 = .ok (.iload_n 1, 1) := by decide +kernel
theorem dX5_hope_1 : decode cX5_hope 1 = .ok (.iconst 0, 1) := by decide +kernel
theorem dX5_hope_2 : decode cX5_hope 2 = .ok (.bipush 99, 2) := by decide +kernel
theorem dX5_hope_4 : decode cX5_hope 4 = .ok (.invokestatic 77, 3) := by decide +kernel
theorem dX5_hope_7 : decode cX5_hope 7 = .ok (.ifCond .eq 12, 3) := by decide +kernel
theorem dX5_hope_10 : decode cX5_hope 10 = .ok (.iload_n 2, 1) := by decide +kernel
theorem dX5_hope_11 : decode cX5_hope 11 = .ok (.iconst 0, 1) := by decide +kernel
theorem dX5_hope_12 : decode cX5_hope 12 = .ok (.iconst 1, 1) := by decide +kernel
theorem dX5_hope_13 : decode cX5_hope 13 = .ok (.invokestatic 77, 3) := by decide +kernel
theorem dX5_hope_16 : decode cX5_hope 16 = .ok (.ifCond .ne 7, 3) := by decide +kernel
theorem dX5_hope_19 : decode cX5_hope 19 = .ok (.ldc2_w 239, 3) := by decide +kernel
theorem dX5_hope_22 : decode cX5_hope 22 = .ok (.lreturn, 1) := by decide +kernel
theorem dX5_hope_23 : decode cX5_hope 23 = .ok (.iload_n 1, 1) := by decide +kernel
theorem dX5_hope_24 : decode cX5_hope 24 = .ok (.i2l, 1) := by decide +kernel
theorem dX5_hope_25 : decode cX5_hope 25 = .ok (.aload_n 0, 1) := by decide +kernel
theorem dX5_hope_26 : decode cX5_hope 26 = .ok (.getfield 10, 3) := by decide +kernel
theorem dX5_hope_29 : decode cX5_hope 29 = .ok (.getfield 115, 3) := by decide +kernel
theorem dX5_hope_32 : decode cX5_hope 32 = .ok (.iconst 3, 1) := by decide +kernel
theorem dX5_hope_33 : decode cX5_hope 33 = .ok (.iaload, 1) := by decide +kernel
theorem dX5_hope_34 : decode cX5_hope 34 = .ok (.i2l, 1) := by decide +kernel
theorem dX5_hope_35 : decode cX5_hope 35 = .ok (.lmul, 1) := by decide +kernel
theorem dX5_hope_36 : decode cX5_hope 36 = .ok (.ldc2_w 249, 3) := by decide +kernel
theorem dX5_hope_39 : decode cX5_hope 39 = .ok (.iload_n 2, 1) := by decide +kernel
theorem dX5_hope_40 : decode cX5_hope 40 = .ok (.invokestatic 251, 3) := by decide +kernel
theorem dX5_hope_43 : decode cX5_hope 43 = .ok (.lreturn, 1) := by decide +kernel
theorem dX5_prove_0 : decode cX5_prove 0 = .ok (.aload_n 0, 1) := by decide +kernel
theorem dX5_prove_1 : decode cX5_prove 1 = .ok (.getfield 10, 3) := by decide +kernel
theorem dX5_prove_4 : decode cX5_prove 4 = .ok (.iload_n 1, 1) := by decide +kernel
theorem dX5_prove_5 : decode cX5_prove 5 = .ok (.invokevirtual 131, 3) := by decide +kernel
theorem dX5_prove_8 : decode cX5_prove 8 = .ok (.ifCond .eq 13, 3) := by decide +kernel
theorem dX5_prove_11 : decode cX5_prove 11 = .ok (.iload_n 2, 1) := by decide +kernel
theorem dX5_prove_12 : decode cX5_prove 12 = .ok (.iconst 1, 1) := by decide +kernel
theorem dX5_prove_13 : decode cX5_prove 13 = .ok (.bipush 10, 2) := by decide +kernel
theorem dX5_prove_15 : decode cX5_prove 15 = .ok (.invokestatic 77, 3) := by decide +kernel
theorem dX5_prove_18 : decode cX5_prove 18 = .ok (.ifCond .ne 5, 3) := by decide +kernel
theorem dX5_prove_21 : decode cX5_prove 21 = .ok (.iconst (-1), 1) := by decide +kernel
theorem dX5_prove_22 : decode cX5_prove 22 = .ok (.ireturn, 1) := by decide +kernel
theorem dX5_prove_23 : decode cX5_prove 23 = .ok (.aload_n 0, 1) := by decide +kernel
theorem dX5_prove_24 : decode cX5_prove 24 = .ok (.getfield 19, 3) := by decide +kernel
theorem dX5_prove_27 : decode cX5_prove 27 = .ok (.aload_n 0, 1) := by decide +kernel
theorem dX5_prove_28 : decode cX5_prove 28 = .ok (.getfield 10, 3) := by decide +kernel
theorem dX5_prove_31 : decode cX5_prove 31 = .ok (.invokevirtual 98, 3) := by decide +kernel
theorem dX5_prove_34 : decode cX5_prove 34 = .ok (.iconst 0, 1) := by decide +kernel
theorem dX5_prove_35 : decode cX5_prove 35 = .ok (.istore_n 3, 1) := by decide +kernel
theorem dX5_prove_36 : decode cX5_prove 36 = .ok (.iload_n 3, 1) := by decide +kernel
theorem dX5_prove_37 : decode cX5_prove 37 = .ok (.iload_n 2, 1) := by decide +kernel
theorem dX5_prove_38 : decode cX5_prove 38 = .ok (.if_icmp .ge 52, 3) := by decide +kernel
theorem dX5_prove_41 : decode cX5_prove 41 = .ok (.aload_n 0, 1) := by decide +kernel
theorem dX5_prove_42 : decode cX5_prove 42 = .ok (.getfield 19, 3) := by decide +kernel
theorem dX5_prove_45 : decode cX5_prove 45 = .ok (.invokevirtual 162, 3) := by decide +kernel
theorem dX5_prove_48 : decode cX5_prove 48 = .ok (.iconst 0, 1) := by decide +kernel
theorem dX5_prove_49 : decode cX5_prove 49 = .ok (.istore 4, 2) := by decide +kernel
theorem dX5_prove_51 : decode cX5_prove 51 = .ok (.iload 4, 2) := by decide +kernel
theorem dX5_prove_53 : decode cX5_prove 53 = .ok (.iconst 3, 1) := by decide +kernel
theorem dX5_prove_54 : decode cX5_prove 54 = .ok (.if_icmp .ge 30, 3) := by decide +kernel
theorem dX5_prove_57 : decode cX5_prove 57 = .ok (.aload_n 0, 1) := by decide +kernel
theorem dX5_prove_58 : decode cX5_prove 58 = .ok (.getfield 48, 3) := by decide +kernel
theorem dX5_prove_61 : decode cX5_prove 61 = .ok (.iload_n 3, 1) := by decide +kernel
theorem dX5_prove_62 : decode cX5_prove 62 = .ok (.iconst 3, 1) := by decide +kernel
theorem dX5_prove_63 : decode cX5_prove 63 = .ok (.imul, 1) := by decide +kernel
theorem dX5_prove_64 : decode cX5_prove 64 = .ok (.iload 4, 2) := by decide +kernel
theorem dX5_prove_66 : decode cX5_prove 66 = .ok (.iadd, 1) := by decide +kernel
theorem dX5_prove_67 : decode cX5_prove 67 = .ok (.aload_n 0, 1) := by decide +kernel
theorem dX5_prove_68 : decode cX5_prove 68 = .ok (.getfield 19, 3) := by decide +kernel
theorem dX5_prove_71 : decode cX5_prove 71 = .ok (.iload_n 1, 1) := by decide +kernel
theorem dX5_prove_72 : decode cX5_prove 72 = .ok (.iload 4, 2) := by decide +kernel
theorem dX5_prove_74 : decode cX5_prove 74 = .ok (.invokevirtual 255, 3) := by decide +kernel
theorem dX5_prove_77 : decode cX5_prove 77 = .ok (.iastore, 1) := by decide +kernel
theorem dX5_prove_78 : decode cX5_prove 78 = .ok (.iinc 4 1, 3) := by decide +kernel
theorem dX5_prove_81 : decode cX5_prove 81 = .ok (.goto (-30), 3) := by decide +kernel
theorem dX5_prove_84 : decode cX5_prove 84 = .ok (.iinc 3 1, 3) := by decide +kernel
theorem dX5_prove_87 : decode cX5_prove 87 = .ok (.goto (-51), 3) := by decide +kernel
theorem dX5_prove_90 : decode cX5_prove 90 = .ok (.aload_n 0, 1) := by decide +kernel
theorem dX5_prove_91 : decode cX5_prove 91 = .ok (.iload_n 2, 1) := by decide +kernel
theorem dX5_prove_92 : decode cX5_prove 92 = .ok (.putfield 67, 3) := by decide +kernel
theorem dX5_prove_95 : decode cX5_prove 95 = .ok (.iload_n 2, 1) := by decide +kernel
theorem dX5_prove_96 : decode cX5_prove 96 = .ok (.ireturn, 1) := by decide +kernel
theorem dX5_row_0 : decode cX5_row 0 = .ok (.aload_n 0, 1) := by decide +kernel
theorem dX5_row_1 : decode cX5_row 1 = .ok (.iload_n 1, 1) := by decide +kernel
theorem dX5_row_2 : decode cX5_row 2 = .ok (.iload_n 2, 1) := by decide +kernel
theorem dX5_row_3 : decode cX5_row 3 = .ok (.invokevirtual 258, 3) := by decide +kernel
theorem dX5_row_6 : decode cX5_row 6 = .ok (.ifCond .eq 16, 3) := by decide +kernel
theorem dX5_row_9 : decode cX5_row 9 = .ok (.aload_n 0, 1) := by decide +kernel
theorem dX5_row_10 : decode cX5_row 10 = .ok (.getfield 48, 3) := by decide +kernel
theorem dX5_row_13 : decode cX5_row 13 = .ok (.iload_n 1, 1) := by decide +kernel
theorem dX5_row_14 : decode cX5_row 14 = .ok (.iconst 3, 1) := by decide +kernel
theorem dX5_row_15 : decode cX5_row 15 = .ok (.imul, 1) := by decide +kernel
theorem dX5_row_16 : decode cX5_row 16 = .ok (.iload_n 2, 1) := by decide +kernel
theorem dX5_row_17 : decode cX5_row 17 = .ok (.iadd, 1) := by decide +kernel
theorem dX5_row_18 : decode cX5_row 18 = .ok (.iaload, 1) := by decide +kernel
theorem dX5_row_19 : decode cX5_row 19 = .ok (.goto 5, 3) := by decide +kernel
theorem dX5_row_22 : decode cX5_row 22 = .ok (.bipush (-9), 2) := by decide +kernel
theorem dX5_row_24 : decode cX5_row 24 = .ok (.ireturn, 1) := by decide +kernel
theorem dX5_alterRow_0 : decode cX5_alterRow 0 = .ok (.aload_n 0, 1) := by decide +kernel
theorem dX5_alterRow_1 : decode cX5_alterRow 1 = .ok (.iload_n 1, 1) := by decide +kernel
theorem dX5_alterRow_2 : decode cX5_alterRow 2 = .ok (.iload_n 2, 1) := by decide +kernel
theorem dX5_alterRow_3 : decode cX5_alterRow 3 = .ok (.invokevirtual 258, 3) := by decide +kernel
theorem dX5_alterRow_6 : decode cX5_alterRow 6 = .ok (.ifCond .ne 6, 3) := by decide +kernel
theorem dX5_alterRow_9 : decode cX5_alterRow 9 = .ok (.bipush (-9), 2) := by decide +kernel
theorem dX5_alterRow_11 : decode cX5_alterRow 11 = .ok (.ireturn, 1) := by decide +kernel
theorem dX5_alterRow_12 : decode cX5_alterRow 12 = .ok (.aload_n 0, 1) := by decide +kernel
theorem dX5_alterRow_13 : decode cX5_alterRow 13 = .ok (.getfield 48, 3) := by decide +kernel
theorem dX5_alterRow_16 : decode cX5_alterRow 16 = .ok (.iload_n 1, 1) := by decide +kernel
theorem dX5_alterRow_17 : decode cX5_alterRow 17 = .ok (.iconst 3, 1) := by decide +kernel
theorem dX5_alterRow_18 : decode cX5_alterRow 18 = .ok (.imul, 1) := by decide +kernel
theorem dX5_alterRow_19 : decode cX5_alterRow 19 = .ok (.iload_n 2, 1) := by decide +kernel
theorem dX5_alterRow_20 : decode cX5_alterRow 20 = .ok (.iadd, 1) := by decide +kernel
theorem dX5_alterRow_21 : decode cX5_alterRow 21 = .ok (.iaload, 1) := by decide +kernel
theorem dX5_alterRow_22 : decode cX5_alterRow 22 = .ok (.istore 4, 2) := by decide +kernel
theorem dX5_alterRow_24 : decode cX5_alterRow 24 = .ok (.aload_n 0, 1) := by decide +kernel
theorem dX5_alterRow_25 : decode cX5_alterRow 25 = .ok (.getfield 48, 3) := by decide +kernel
theorem dX5_alterRow_28 : decode cX5_alterRow 28 = .ok (.iload_n 1, 1) := by decide +kernel
theorem dX5_alterRow_29 : decode cX5_alterRow 29 = .ok (.iconst 3, 1) := by decide +kernel
theorem dX5_alterRow_30 : decode cX5_alterRow 30 = .ok (.imul, 1) := by decide +kernel
theorem dX5_alterRow_31 : decode cX5_alterRow 31 = .ok (.iload_n 2, 1) := by decide +kernel
theorem dX5_alterRow_32 : decode cX5_alterRow 32 = .ok (.iadd, 1) := by decide +kernel
theorem dX5_alterRow_33 : decode cX5_alterRow 33 = .ok (.iload_n 3, 1) := by decide +kernel
theorem dX5_alterRow_34 : decode cX5_alterRow 34 = .ok (.iastore, 1) := by decide +kernel
theorem dX5_alterRow_35 : decode cX5_alterRow 35 = .ok (.iload 4, 2) := by decide +kernel
theorem dX5_alterRow_37 : decode cX5_alterRow 37 = .ok (.ireturn, 1) := by decide +kernel
theorem dX5_judge_0 : decode cX5_judge 0 = .ok (.aload_n 0, 1) := by decide +kernel
theorem dX5_judge_1 : decode cX5_judge 1 = .ok (.getfield 10, 3) := by decide +kernel
theorem dX5_judge_4 : decode cX5_judge 4 = .ok (.iload_n 1, 1) := by decide +kernel
theorem dX5_judge_5 : decode cX5_judge 5 = .ok (.invokevirtual 131, 3) := by decide +kernel
theorem dX5_judge_8 : decode cX5_judge 8 = .ok (.ifCond .ne 5, 3) := by decide +kernel
theorem dX5_judge_11 : decode cX5_judge 11 = .ok (.iconst (-1), 1) := by decide +kernel
theorem dX5_judge_12 : decode cX5_judge 12 = .ok (.ireturn, 1) := by decide +kernel
theorem dX5_judge_13 : decode cX5_judge 13 = .ok (.aload_n 0, 1) := by decide +kernel
theorem dX5_judge_14 : decode cX5_judge 14 = .ok (.getfield 19, 3) := by decide +kernel
theorem dX5_judge_17 : decode cX5_judge 17 = .ok (.aload_n 0, 1) := by decide +kernel
theorem dX5_judge_18 : decode cX5_judge 18 = .ok (.getfield 10, 3) := by decide +kernel
theorem dX5_judge_21 : decode cX5_judge 21 = .ok (.invokevirtual 98, 3) := by decide +kernel
theorem dX5_judge_24 : decode cX5_judge 24 = .ok (.iconst 0, 1) := by decide +kernel
theorem dX5_judge_25 : decode cX5_judge 25 = .ok (.istore_n 2, 1) := by decide +kernel
theorem dX5_judge_26 : decode cX5_judge 26 = .ok (.iload_n 2, 1) := by decide +kernel
theorem dX5_judge_27 : decode cX5_judge 27 = .ok (.aload_n 0, 1) := by decide +kernel
theorem dX5_judge_28 : decode cX5_judge 28 = .ok (.getfield 67, 3) := by decide +kernel
theorem dX5_judge_31 : decode cX5_judge 31 = .ok (.if_icmp .ge 55, 3) := by decide +kernel
theorem dX5_judge_34 : decode cX5_judge 34 = .ok (.aload_n 0, 1) := by decide +kernel
theorem dX5_judge_35 : decode cX5_judge 35 = .ok (.getfield 19, 3) := by decide +kernel
theorem dX5_judge_38 : decode cX5_judge 38 = .ok (.invokevirtual 162, 3) := by decide +kernel
theorem dX5_judge_41 : decode cX5_judge 41 = .ok (.iconst 0, 1) := by decide +kernel
theorem dX5_judge_42 : decode cX5_judge 42 = .ok (.istore_n 3, 1) := by decide +kernel
theorem dX5_judge_43 : decode cX5_judge 43 = .ok (.iload_n 3, 1) := by decide +kernel
theorem dX5_judge_44 : decode cX5_judge 44 = .ok (.iconst 3, 1) := by decide +kernel
theorem dX5_judge_45 : decode cX5_judge 45 = .ok (.if_icmp .ge 35, 3) := by decide +kernel
theorem dX5_judge_48 : decode cX5_judge 48 = .ok (.aload_n 0, 1) := by decide +kernel
theorem dX5_judge_49 : decode cX5_judge 49 = .ok (.getfield 48, 3) := by decide +kernel
theorem dX5_judge_52 : decode cX5_judge 52 = .ok (.iload_n 2, 1) := by decide +kernel
theorem dX5_judge_53 : decode cX5_judge 53 = .ok (.iconst 3, 1) := by decide +kernel
theorem dX5_judge_54 : decode cX5_judge 54 = .ok (.imul, 1) := by decide +kernel
theorem dX5_judge_55 : decode cX5_judge 55 = .ok (.iload_n 3, 1) := by decide +kernel
theorem dX5_judge_56 : decode cX5_judge 56 = .ok (.iadd, 1) := by decide +kernel
theorem dX5_judge_57 : decode cX5_judge 57 = .ok (.iaload, 1) := by decide +kernel
theorem dX5_judge_58 : decode cX5_judge 58 = .ok (.aload_n 0, 1) := by decide +kernel
theorem dX5_judge_59 : decode cX5_judge 59 = .ok (.getfield 19, 3) := by decide +kernel
theorem dX5_judge_62 : decode cX5_judge 62 = .ok (.iload_n 1, 1) := by decide +kernel
theorem dX5_judge_63 : decode cX5_judge 63 = .ok (.iload_n 3, 1) := by decide +kernel
theorem dX5_judge_64 : decode cX5_judge 64 = .ok (.invokevirtual 255, 3) := by decide +kernel
theorem dX5_judge_67 : decode cX5_judge 67 = .ok (.if_icmp .eq 7, 3) := by decide +kernel
theorem dX5_judge_70 : decode cX5_judge 70 = .ok (.iload_n 2, 1) := by decide +kernel
theorem dX5_judge_71 : decode cX5_judge 71 = .ok (.iconst 1, 1) := by decide +kernel
theorem dX5_judge_72 : decode cX5_judge 72 = .ok (.iadd, 1) := by decide +kernel
theorem dX5_judge_73 : decode cX5_judge 73 = .ok (.ireturn, 1) := by decide +kernel
theorem dX5_judge_74 : decode cX5_judge 74 = .ok (.iinc 3 1, 3) := by decide +kernel
theorem dX5_judge_77 : decode cX5_judge 77 = .ok (.goto (-34), 3) := by decide +kernel
theorem dX5_judge_80 : decode cX5_judge 80 = .ok (.iinc 2 1, 3) := by decide +kernel
theorem dX5_judge_83 : decode cX5_judge 83 = .ok (.goto (-57), 3) := by decide +kernel
theorem dX5_judge_86 : decode cX5_judge 86 = .ok (.iconst 0, 1) := by decide +kernel
theorem dX5_judge_87 : decode cX5_judge 87 = .ok (.ireturn, 1) := by decide +kernel
theorem dX5_minds_0 : decode cX5_minds 0 = .ok (.aload_n 0, 1) := by decide +kernel
theorem dX5_minds_1 : decode cX5_minds 1 = .ok (.iload_n 1, 1) := by decide +kernel
theorem dX5_minds_2 : decode cX5_minds 2 = .ok (.invokevirtual 227, 3) := by decide +kernel
theorem dX5_minds_5 : decode cX5_minds 5 = .ok (.astore 5, 2) := by decide +kernel
theorem dX5_minds_7 : decode cX5_minds 7 = .ok (.aload 5, 2) := by decide +kernel
theorem dX5_minds_9 : decode cX5_minds 9 = .ok (.ifnull 39, 3) := by decide +kernel
theorem dX5_minds_12 : decode cX5_minds 12 = .ok (.aload_n 0, 1) := by decide +kernel
theorem dX5_minds_13 : decode cX5_minds 13 = .ok (.getfield 10, 3) := by decide +kernel
theorem dX5_minds_16 : decode cX5_minds 16 = .ok (.iload_n 3, 1) := by decide +kernel
theorem dX5_minds_17 : decode cX5_minds 17 = .ok (.invokevirtual 131, 3) := by decide +kernel
theorem dX5_minds_20 : decode cX5_minds 20 = .ok (.ifCond .eq 28, 3) := by decide +kernel
theorem dX5_minds_23 : decode cX5_minds 23 = .ok (.iload 4, 2) := by decide +kernel
theorem dX5_minds_25 : decode cX5_minds 25 = .ok (.iconst 0, 1) := by decide +kernel
theorem dX5_minds_26 : decode cX5_minds 26 = .ok (.bipush 8, 2) := by decide +kernel
theorem dX5_minds_28 : decode cX5_minds 28 = .ok (.invokestatic 77, 3) := by decide +kernel
theorem dX5_minds_31 : decode cX5_minds 31 = .ok (.ifCond .eq 17, 3) := by decide +kernel
theorem dX5_minds_34 : decode cX5_minds 34 = .ok (.iload 4, 2) := by decide +kernel
theorem dX5_minds_36 : decode cX5_minds 36 = .ok (.aload_n 0, 1) := by decide +kernel
theorem dX5_minds_37 : decode cX5_minds 37 = .ok (.getfield 10, 3) := by decide +kernel
theorem dX5_minds_40 : decode cX5_minds 40 = .ok (.getfield 102, 3) := by decide +kernel
theorem dX5_minds_43 : decode cX5_minds 43 = .ok (.iload_n 3, 1) := by decide +kernel
theorem dX5_minds_44 : decode cX5_minds 44 = .ok (.isub, 1) := by decide +kernel
theorem dX5_minds_45 : decode cX5_minds 45 = .ok (.if_icmp .le 5, 3) := by decide +kernel
theorem dX5_minds_48 : decode cX5_minds 48 = .ok (.iconst (-1), 1) := by decide +kernel
theorem dX5_minds_49 : decode cX5_minds 49 = .ok (.ireturn, 1) := by decide +kernel
theorem dX5_minds_50 : decode cX5_minds 50 = .ok (.aload 5, 2) := by decide +kernel
theorem dX5_minds_52 : decode cX5_minds 52 = .ok (.invokevirtual 231, 3) := by decide +kernel
theorem dX5_minds_55 : decode cX5_minds 55 = .ok (.ifCond .eq 6, 3) := by decide +kernel
theorem dX5_minds_58 : decode cX5_minds 58 = .ok (.bipush (-11), 2) := by decide +kernel
theorem dX5_minds_60 : decode cX5_minds 60 = .ok (.ireturn, 1) := by decide +kernel
theorem dX5_minds_61 : decode cX5_minds 61 = .ok (.aload 5, 2) := by decide +kernel
theorem dX5_minds_63 : decode cX5_minds 63 = .ok (.getfield 261, 3) := by decide +kernel
theorem dX5_minds_66 : decode cX5_minds 66 = .ok (.ifCond .eq 6, 3) := by decide +kernel
theorem dX5_minds_69 : decode cX5_minds 69 = .ok (.bipush (-13), 2) := by decide +kernel
theorem dX5_minds_71 : decode cX5_minds 71 = .ok (.ireturn, 1) := by decide +kernel
theorem dX5_minds_72 : decode cX5_minds 72 = .ok (.iload_n 2, 1) := by decide +kernel
theorem dX5_minds_73 : decode cX5_minds 73 = .ok (.iconst 0, 1) := by decide +kernel
theorem dX5_minds_74 : decode cX5_minds 74 = .ok (.aload 5, 2) := by decide +kernel
theorem dX5_minds_76 : decode cX5_minds 76 = .ok (.getfield 264, 3) := by decide +kernel
theorem dX5_minds_79 : decode cX5_minds 79 = .ok (.invokestatic 77, 3) := by decide +kernel
theorem dX5_minds_82 : decode cX5_minds 82 = .ok (.ifCond .eq 15, 3) := by decide +kernel
theorem dX5_minds_85 : decode cX5_minds 85 = .ok (.iload 4, 2) := by decide +kernel
theorem dX5_minds_87 : decode cX5_minds 87 = .ok (.aload 5, 2) := by decide +kernel
theorem dX5_minds_89 : decode cX5_minds 89 = .ok (.getfield 264, 3) := by decide +kernel
theorem dX5_minds_92 : decode cX5_minds 92 = .ok (.iload_n 2, 1) := by decide +kernel
theorem dX5_minds_93 : decode cX5_minds 93 = .ok (.isub, 1) := by decide +kernel
theorem dX5_minds_94 : decode cX5_minds 94 = .ok (.if_icmp .le 6, 3) := by decide +kernel
theorem dX5_minds_97 : decode cX5_minds 97 = .ok (.bipush (-12), 2) := by decide +kernel
theorem dX5_minds_99 : decode cX5_minds 99 = .ok (.ireturn, 1) := by decide +kernel
theorem dX5_minds_100 : decode cX5_minds 100 = .ok (.iconst 0, 1) := by decide +kernel
theorem dX5_minds_101 : decode cX5_minds 101 = .ok (.istore 6, 2) := by decide +kernel
theorem dX5_minds_103 : decode cX5_minds 103 = .ok (.iload 6, 2) := by decide +kernel
theorem dX5_minds_105 : decode cX5_minds 105 = .ok (.iload 4, 2) := by decide +kernel
theorem dX5_minds_107 : decode cX5_minds 107 = .ok (.if_icmp .ge 36, 3) := by decide +kernel
theorem dX5_minds_110 : decode cX5_minds 110 = .ok (.aload_n 0, 1) := by decide +kernel
theorem dX5_minds_111 : decode cX5_minds 111 = .ok (.getfield 10, 3) := by decide +kernel
theorem dX5_minds_114 : decode cX5_minds 114 = .ok (.getfield 137, 3) := by decide +kernel
theorem dX5_minds_117 : decode cX5_minds 117 = .ok (.iload_n 3, 1) := by decide +kernel
theorem dX5_minds_118 : decode cX5_minds 118 = .ok (.iload 6, 2) := by decide +kernel
theorem dX5_minds_120 : decode cX5_minds 120 = .ok (.iadd, 1) := by decide +kernel
theorem dX5_minds_121 : decode cX5_minds 121 = .ok (.aload 5, 2) := by decide +kernel
theorem dX5_minds_123 : decode cX5_minds 123 = .ok (.getfield 265, 3) := by decide +kernel
theorem dX5_minds_126 : decode cX5_minds 126 = .ok (.iload_n 2, 1) := by decide +kernel
theorem dX5_minds_127 : decode cX5_minds 127 = .ok (.iload 6, 2) := by decide +kernel
theorem dX5_minds_129 : decode cX5_minds 129 = .ok (.iadd, 1) := by decide +kernel
theorem dX5_minds_130 : decode cX5_minds 130 = .ok (.iaload, 1) := by decide +kernel
theorem dX5_minds_131 : decode cX5_minds 131 = .ok (.bipush 9, 2) := by decide +kernel
theorem dX5_minds_133 : decode cX5_minds 133 = .ok (.invokestatic 268, 3) := by decide +kernel
theorem dX5_minds_136 : decode cX5_minds 136 = .ok (.iastore, 1) := by decide +kernel
theorem dX5_minds_137 : decode cX5_minds 137 = .ok (.iinc 6 1, 3) := by decide +kernel
theorem dX5_minds_140 : decode cX5_minds 140 = .ok (.goto (-37), 3) := by decide +kernel
theorem dX5_minds_143 : decode cX5_minds 143 = .ok (.iload 4, 2) := by decide +kernel
theorem dX5_minds_145 : decode cX5_minds 145 = .ok (.ireturn, 1) := by decide +kernel
theorem dX5_sheet_0 : decode cX5_sheet 0 = .ok (.aload_n 0, 1) := by decide +kernel
theorem dX5_sheet_1 : decode cX5_sheet 1 = .ok (.iload_n 1, 1) := by decide +kernel
theorem dX5_sheet_2 : decode cX5_sheet 2 = .ok (.invokevirtual 227, 3) := by decide +kernel
theorem dX5_sheet_5 : decode cX5_sheet 5 = .ok (.astore 4, 2) := by decide +kernel
theorem dX5_sheet_7 : decode cX5_sheet 7 = .ok (.aload 4, 2) := by decide +kernel
theorem dX5_sheet_9 : decode cX5_sheet 9 = .ok (.ifnull 12, 3) := by decide +kernel
theorem dX5_sheet_12 : decode cX5_sheet 12 = .ok (.iload_n 2, 1) := by decide +kernel
theorem dX5_sheet_13 : decode cX5_sheet 13 = .ok (.iconst (-1), 1) := by decide +kernel
theorem dX5_sheet_14 : decode cX5_sheet 14 = .ok (.iconst 3, 1) := by decide +kernel
theorem dX5_sheet_15 : decode cX5_sheet 15 = .ok (.invokestatic 77, 3) := by decide +kernel
theorem dX5_sheet_18 : decode cX5_sheet 18 = .ok (.ifCond .ne 5, 3) := by decide +kernel
theorem dX5_sheet_21 : decode cX5_sheet 21 = .ok (.iconst (-1), 1) := by decide +kernel
theorem dX5_sheet_22 : decode cX5_sheet 22 = .ok (.ireturn, 1) := by decide +kernel
theorem dX5_sheet_23 : decode cX5_sheet 23 = .ok (.iload_n 2, 1) := by decide +kernel
theorem dX5_sheet_24 : decode cX5_sheet 24 = .ok (.iconst (-1), 1) := by decide +kernel
theorem dX5_sheet_25 : decode cX5_sheet 25 = .ok (.if_icmp .ne 11, 3) := by decide +kernel
theorem dX5_sheet_28 : decode cX5_sheet 28 = .ok (.aload 4, 2) := by decide +kernel
theorem dX5_sheet_30 : decode cX5_sheet 30 = .ok (.iconst (-1), 1) := by decide +kernel
theorem dX5_sheet_31 : decode cX5_sheet 31 = .ok (.putfield 261, 3) := by decide +kernel
theorem dX5_sheet_34 : decode cX5_sheet 34 = .ok (.iconst 1, 1) := by decide +kernel
theorem dX5_sheet_35 : decode cX5_sheet 35 = .ok (.ireturn, 1) := by decide +kernel
theorem dX5_sheet_36 : decode cX5_sheet 36 = .ok (.iload_n 3, 1) := by decide +kernel
theorem dX5_sheet_37 : decode cX5_sheet 37 = .ok (.bipush 40, 2) := by decide +kernel
theorem dX5_sheet_39 : decode cX5_sheet 39 = .ok (.if_icmp .le 5, 3) := by decide +kernel
theorem dX5_sheet_42 : decode cX5_sheet 42 = .ok (.iconst (-1), 1) := by decide +kernel
theorem dX5_sheet_43 : decode cX5_sheet 43 = .ok (.ireturn, 1) := by decide +kernel
theorem dX5_sheet_44 : decode cX5_sheet 44 = .ok (.iload_n 3, 1) := by decide +kernel
theorem dX5_sheet_45 : decode cX5_sheet 45 = .ok (.ifCond .ge 6, 3) := by decide +kernel
theorem dX5_sheet_48 : decode cX5_sheet 48 = .ok (.bipush (-14), 2) := by decide +kernel
theorem dX5_sheet_50 : decode cX5_sheet 50 = .ok (.ireturn, 1) := by decide +kernel
theorem dX5_sheet_51 : decode cX5_sheet 51 = .ok (.aload 4, 2) := by decide +kernel
theorem dX5_sheet_53 : decode cX5_sheet 53 = .ok (.iload_n 2, 1) := by decide +kernel
theorem dX5_sheet_54 : decode cX5_sheet 54 = .ok (.iload_n 3, 1) := by decide +kernel
theorem dX5_sheet_55 : decode cX5_sheet 55 = .ok (.invokevirtual 271, 3) := by decide +kernel
theorem dX5_sheet_58 : decode cX5_sheet 58 = .ok (.iconst 1, 1) := by decide +kernel
theorem dX5_sheet_59 : decode cX5_sheet 59 = .ok (.ireturn, 1) := by decide +kernel
theorem dX5_put_0 : decode cX5_put 0 = .ok (.aload_n 0, 1) := by decide +kernel
theorem dX5_put_1 : decode cX5_put 1 = .ok (.iload_n 1, 1) := by decide +kernel
theorem dX5_put_2 : decode cX5_put 2 = .ok (.invokevirtual 227, 3) := by decide +kernel
theorem dX5_put_5 : decode cX5_put 5 = .ok (.astore 4, 2) := by decide +kernel
theorem dX5_put_7 : decode cX5_put 7 = .ok (.aload 4, 2) := by decide +kernel
theorem dX5_put_9 : decode cX5_put 9 = .ok (.ifnonnull 5, 3) := by decide +kernel
theorem dX5_put_12 : decode cX5_put 12 = .ok (.iconst (-1), 1) := by decide +kernel
theorem dX5_put_13 : decode cX5_put 13 = .ok (.ireturn, 1) := by decide +kernel
theorem dX5_put_14 : decode cX5_put 14 = .ok (.aload 4, 2) := by decide +kernel
theorem dX5_put_16 : decode cX5_put 16 = .ok (.invokevirtual 231, 3) := by decide +kernel
theorem dX5_put_19 : decode cX5_put 19 = .ok (.ifCond .eq 6, 3) := by decide +kernel
theorem dX5_put_22 : decode cX5_put 22 = .ok (.bipush (-11), 2) := by decide +kernel
theorem dX5_put_24 : decode cX5_put 24 = .ok (.ireturn, 1) := by decide +kernel
theorem dX5_put_25 : decode cX5_put 25 = .ok (.aload 4, 2) := by decide +kernel
theorem dX5_put_27 : decode cX5_put 27 = .ok (.iload_n 2, 1) := by decide +kernel
theorem dX5_put_28 : decode cX5_put 28 = .ok (.invokevirtual 275, 3) := by decide +kernel
theorem dX5_put_31 : decode cX5_put 31 = .ok (.ifCond .ne 6, 3) := by decide +kernel
theorem dX5_put_34 : decode cX5_put 34 = .ok (.bipush (-12), 2) := by decide +kernel
theorem dX5_put_36 : decode cX5_put 36 = .ok (.ireturn, 1) := by decide +kernel
theorem dX5_put_37 : decode cX5_put 37 = .ok (.aload 4, 2) := by decide +kernel
theorem dX5_put_39 : decode cX5_put 39 = .ok (.getfield 265, 3) := by decide +kernel
theorem dX5_put_42 : decode cX5_put 42 = .ok (.iload_n 2, 1) := by decide +kernel
theorem dX5_put_43 : decode cX5_put 43 = .ok (.aload 4, 2) := by decide +kernel
theorem dX5_put_45 : decode cX5_put 45 = .ok (.iload_n 3, 1) := by decide +kernel
theorem dX5_put_46 : decode cX5_put 46 = .ok (.invokevirtual 278, 3) := by decide +kernel
theorem dX5_put_49 : decode cX5_put 49 = .ok (.iastore, 1) := by decide +kernel
theorem dX5_put_50 : decode cX5_put 50 = .ok (.iconst 1, 1) := by decide +kernel
theorem dX5_put_51 : decode cX5_put 51 = .ok (.ireturn, 1) := by decide +kernel
theorem dX5_item_0 : decode cX5_item 0 = .ok (.aload_n 0, 1) := by decide +kernel
theorem dX5_item_1 : decode cX5_item 1 = .ok (.iload_n 1, 1) := by decide +kernel
theorem dX5_item_2 : decode cX5_item 2 = .ok (.invokevirtual 227, 3) := by decide +kernel
theorem dX5_item_5 : decode cX5_item 5 = .ok (.astore 4, 2) := by decide +kernel
theorem dX5_item_7 : decode cX5_item 7 = .ok (.aload 4, 2) := by decide +kernel
theorem dX5_item_9 : decode cX5_item 9 = .ok (.ifnull 12, 3) := by decide +kernel
theorem dX5_item_12 : decode cX5_item 12 = .ok (.iload_n 2, 1) := by decide +kernel
theorem dX5_item_13 : decode cX5_item 13 = .ok (.iconst 0, 1) := by decide +kernel
theorem dX5_item_14 : decode cX5_item 14 = .ok (.iconst 3, 1) := by decide +kernel
theorem dX5_item_15 : decode cX5_item 15 = .ok (.invokestatic 77, 3) := by decide +kernel
theorem dX5_item_18 : decode cX5_item 18 = .ok (.ifCond .ne 5, 3) := by decide +kernel
theorem dX5_item_21 : decode cX5_item 21 = .ok (.iconst (-1), 1) := by decide +kernel
theorem dX5_item_22 : decode cX5_item 22 = .ok (.ireturn, 1) := by decide +kernel
theorem dX5_item_23 : decode cX5_item 23 = .ok (.aload 4, 2) := by decide +kernel
theorem dX5_item_25 : decode cX5_item 25 = .ok (.invokevirtual 231, 3) := by decide +kernel
theorem dX5_item_28 : decode cX5_item 28 = .ok (.ifCond .eq 6, 3) := by decide +kernel
theorem dX5_item_31 : decode cX5_item 31 = .ok (.bipush (-11), 2) := by decide +kernel
theorem dX5_item_33 : decode cX5_item 33 = .ok (.ireturn, 1) := by decide +kernel
theorem dX5_item_34 : decode cX5_item 34 = .ok (.aload 4, 2) := by decide +kernel
theorem dX5_item_36 : decode cX5_item 36 = .ok (.getfield 261, 3) := by decide +kernel
theorem dX5_item_39 : decode cX5_item 39 = .ok (.iload_n 2, 1) := by decide +kernel
theorem dX5_item_40 : decode cX5_item 40 = .ok (.if_icmp .eq 6, 3) := by decide +kernel
theorem dX5_item_43 : decode cX5_item 43 = .ok (.bipush (-13), 2) := by decide +kernel
theorem dX5_item_45 : decode cX5_item 45 = .ok (.ireturn, 1) := by decide +kernel
theorem dX5_item_46 : decode cX5_item 46 = .ok (.aload 4, 2) := by decide +kernel
theorem dX5_item_48 : decode cX5_item 48 = .ok (.iload_n 3, 1) := by decide +kernel
theorem dX5_item_49 : decode cX5_item 49 = .ok (.invokevirtual 275, 3) := by decide +kernel
theorem dX5_item_52 : decode cX5_item 52 = .ok (.ifCond .eq 13, 3) := by decide +kernel
theorem dX5_item_55 : decode cX5_item 55 = .ok (.aload 4, 2) := by decide +kernel
theorem dX5_item_57 : decode cX5_item 57 = .ok (.getfield 265, 3) := by decide +kernel
theorem dX5_item_60 : decode cX5_item 60 = .ok (.iload_n 3, 1) := by decide +kernel
theorem dX5_item_61 : decode cX5_item 61 = .ok (.iaload, 1) := by decide +kernel
theorem dX5_item_62 : decode cX5_item 62 = .ok (.goto 5, 3) := by decide +kernel
theorem dX5_item_65 : decode cX5_item 65 = .ok (.bipush (-12), 2) := by decide +kernel
theorem dX5_item_67 : decode cX5_item 67 = .ok (.ireturn, 1) := by decide +kernel
theorem dX5_shelf_0 : decode cX5_shelf 0 = .ok (.aload_n 0, 1) := by decide +kernel
theorem dX5_shelf_1 : decode cX5_shelf 1 = .ok (.iload_n 1, 1) := by decide +kernel
theorem dX5_shelf_2 : decode cX5_shelf 2 = .ok (.invokevirtual 281, 3) := by decide +kernel
theorem dX5_shelf_5 : decode cX5_shelf 5 = .ok (.astore 4, 2) := by decide +kernel
theorem dX5_shelf_7 : decode cX5_shelf 7 = .ok (.aload 4, 2) := by decide +kernel
theorem dX5_shelf_9 : decode cX5_shelf 9 = .ok (.ifnonnull 5, 3) := by decide +kernel
theorem dX5_shelf_12 : decode cX5_shelf 12 = .ok (.iconst (-1), 1) := by decide +kernel
theorem dX5_shelf_13 : decode cX5_shelf 13 = .ok (.ireturn, 1) := by decide +kernel
theorem dX5_shelf_14 : decode cX5_shelf 14 = .ok (.iload_n 2, 1) := by decide +kernel
theorem dX5_shelf_15 : decode cX5_shelf 15 = .ok (.tableswitch 77 0 2 #[25, 46, 69], 25) := by decide +kernel
theorem dX5_shelf_40 : decode cX5_shelf 40 = .ok (.aload_n 0, 1) := by decide +kernel
theorem dX5_shelf_41 : decode cX5_shelf 41 = .ok (.getfield 10, 3) := by decide +kernel
theorem dX5_shelf_44 : decode cX5_shelf 44 = .ok (.iload_n 3, 1) := by decide +kernel
theorem dX5_shelf_45 : decode cX5_shelf 45 = .ok (.invokevirtual 131, 3) := by decide +kernel
theorem dX5_shelf_48 : decode cX5_shelf 48 = .ok (.ifCond .ne 5, 3) := by decide +kernel
theorem dX5_shelf_51 : decode cX5_shelf 51 = .ok (.iconst (-1), 1) := by decide +kernel
theorem dX5_shelf_52 : decode cX5_shelf 52 = .ok (.ireturn, 1) := by decide +kernel
theorem dX5_shelf_53 : decode cX5_shelf 53 = .ok (.aload 4, 2) := by decide +kernel
theorem dX5_shelf_55 : decode cX5_shelf 55 = .ok (.iload_n 3, 1) := by decide +kernel
theorem dX5_shelf_56 : decode cX5_shelf 56 = .ok (.invokevirtual 285, 3) := by decide +kernel
theorem dX5_shelf_59 : decode cX5_shelf 59 = .ok (.iconst 1, 1) := by decide +kernel
theorem dX5_shelf_60 : decode cX5_shelf 60 = .ok (.ireturn, 1) := by decide +kernel
theorem dX5_shelf_61 : decode cX5_shelf 61 = .ok (.aload_n 0, 1) := by decide +kernel
theorem dX5_shelf_62 : decode cX5_shelf 62 = .ok (.iload_n 3, 1) := by decide +kernel
theorem dX5_shelf_63 : decode cX5_shelf 63 = .ok (.invokevirtual 227, 3) := by decide +kernel
theorem dX5_shelf_66 : decode cX5_shelf 66 = .ok (.astore 5, 2) := by decide +kernel
theorem dX5_shelf_68 : decode cX5_shelf 68 = .ok (.aload 5, 2) := by decide +kernel
theorem dX5_shelf_70 : decode cX5_shelf 70 = .ok (.ifnonnull 5, 3) := by decide +kernel
theorem dX5_shelf_73 : decode cX5_shelf 73 = .ok (.iconst (-1), 1) := by decide +kernel
theorem dX5_shelf_74 : decode cX5_shelf 74 = .ok (.ireturn, 1) := by decide +kernel
theorem dX5_shelf_75 : decode cX5_shelf 75 = .ok (.aload 4, 2) := by decide +kernel
theorem dX5_shelf_77 : decode cX5_shelf 77 = .ok (.aload 5, 2) := by decide +kernel
theorem dX5_shelf_79 : decode cX5_shelf 79 = .ok (.invokevirtual 289, 3) := by decide +kernel
theorem dX5_shelf_82 : decode cX5_shelf 82 = .ok (.iconst 1, 1) := by decide +kernel
theorem dX5_shelf_83 : decode cX5_shelf 83 = .ok (.ireturn, 1) := by decide +kernel
theorem dX5_shelf_84 : decode cX5_shelf 84 = .ok (.aload 4, 2) := by decide +kernel
theorem dX5_shelf_86 : decode cX5_shelf 86 = .ok (.iconst 2, 1) := by decide +kernel
theorem dX5_shelf_87 : decode cX5_shelf 87 = .ok (.putfield 293, 3) := by decide +kernel
theorem dX5_shelf_90 : decode cX5_shelf 90 = .ok (.iconst 1, 1) := by decide +kernel
theorem dX5_shelf_91 : decode cX5_shelf 91 = .ok (.ireturn, 1) := by decide +kernel
theorem dX5_shelf_92 : decode cX5_shelf 92 = .ok (.iconst (-1), 1) := by decide +kernel
theorem dX5_shelf_93 : decode cX5_shelf 93 = .ok (.ireturn, 1) := by decide +kernel
theorem dX5_taken_0 : decode cX5_taken 0 = .ok (.aload_n 0, 1) := by decide +kernel
theorem dX5_taken_1 : decode cX5_taken 1 = .ok (.iload_n 1, 1) := by decide +kernel
theorem dX5_taken_2 : decode cX5_taken 2 = .ok (.invokevirtual 281, 3) := by decide +kernel
theorem dX5_taken_5 : decode cX5_taken 5 = .ok (.astore_n 3, 1) := by decide +kernel
theorem dX5_taken_6 : decode cX5_taken 6 = .ok (.iload_n 2, 1) := by decide +kernel
theorem dX5_taken_7 : decode cX5_taken 7 = .ok (.bipush 10, 2) := by decide +kernel
theorem dX5_taken_9 : decode cX5_taken 9 = .ok (.bipush 13, 2) := by decide +kernel
theorem dX5_taken_11 : decode cX5_taken 11 = .ok (.invokestatic 77, 3) := by decide +kernel
theorem dX5_taken_14 : decode cX5_taken 14 = .ok (.istore 4, 2) := by decide +kernel
theorem dX5_taken_16 : decode cX5_taken 16 = .ok (.aload_n 3, 1) := by decide +kernel
theorem dX5_taken_17 : decode cX5_taken 17 = .ok (.ifnull 15, 3) := by decide +kernel
theorem dX5_taken_20 : decode cX5_taken 20 = .ok (.iload_n 2, 1) := by decide +kernel
theorem dX5_taken_21 : decode cX5_taken 21 = .ok (.invokestatic 118, 3) := by decide +kernel
theorem dX5_taken_24 : decode cX5_taken 24 = .ok (.ifCond .ne 10, 3) := by decide +kernel
theorem dX5_taken_27 : decode cX5_taken 27 = .ok (.iload 4, 2) := by decide +kernel
theorem dX5_taken_29 : decode cX5_taken 29 = .ok (.ifCond .ne 5, 3) := by decide +kernel
theorem dX5_taken_32 : decode cX5_taken 32 = .ok (.iconst (-1), 1) := by decide +kernel
theorem dX5_taken_33 : decode cX5_taken 33 = .ok (.ireturn, 1) := by decide +kernel
theorem dX5_taken_34 : decode cX5_taken 34 = .ok (.aload_n 3, 1) := by decide +kernel
theorem dX5_taken_35 : decode cX5_taken 35 = .ok (.getfield 293, 3) := by decide +kernel
theorem dX5_taken_38 : decode cX5_taken 38 = .ok (.iconst 1, 1) := by decide +kernel
theorem dX5_taken_39 : decode cX5_taken 39 = .ok (.if_icmp .ne 24, 3) := by decide +kernel
theorem dX5_taken_42 : decode cX5_taken 42 = .ok (.iload_n 2, 1) := by decide +kernel
theorem dX5_taken_43 : decode cX5_taken 43 = .ok (.bipush 10, 2) := by decide +kernel
theorem dX5_taken_45 : decode cX5_taken 45 = .ok (.aload_n 3, 1) := by decide +kernel
theorem dX5_taken_46 : decode cX5_taken 46 = .ok (.getfield 296, 3) := by decide +kernel
theorem dX5_taken_49 : decode cX5_taken 49 = .ok (.iadd, 1) := by decide +kernel
theorem dX5_taken_50 : decode cX5_taken 50 = .ok (.if_icmp .ne 10, 3) := by decide +kernel
theorem dX5_taken_53 : decode cX5_taken 53 = .ok (.aload_n 3, 1) := by decide +kernel
theorem dX5_taken_54 : decode cX5_taken 54 = .ok (.getfield 297, 3) := by decide +kernel
theorem dX5_taken_57 : decode cX5_taken 57 = .ok (.goto 5, 3) := by decide +kernel
theorem dX5_taken_60 : decode cX5_taken 60 = .ok (.bipush (-13), 2) := by decide +kernel
theorem dX5_taken_62 : decode cX5_taken 62 = .ok (.ireturn, 1) := by decide +kernel
theorem dX5_taken_63 : decode cX5_taken 63 = .ok (.aload_n 0, 1) := by decide +kernel
theorem dX5_taken_64 : decode cX5_taken 64 = .ok (.aload_n 3, 1) := by decide +kernel
theorem dX5_taken_65 : decode cX5_taken 65 = .ok (.invokevirtual 298, 3) := by decide +kernel
theorem dX5_taken_68 : decode cX5_taken 68 = .ok (.ifCond .ne 6, 3) := by decide +kernel
theorem dX5_taken_71 : decode cX5_taken 71 = .ok (.bipush (-11), 2) := by decide +kernel
theorem dX5_taken_73 : decode cX5_taken 73 = .ok (.ireturn, 1) := by decide +kernel
theorem dX5_taken_74 : decode cX5_taken 74 = .ok (.iload 4, 2) := by decide +kernel
theorem dX5_taken_76 : decode cX5_taken 76 = .ok (.ifCond .ne 29, 3) := by decide +kernel
theorem dX5_taken_79 : decode cX5_taken 79 = .ok (.aload_n 0, 1) := by decide +kernel
theorem dX5_taken_80 : decode cX5_taken 80 = .ok (.getfield 10, 3) := by decide +kernel
theorem dX5_taken_83 : decode cX5_taken 83 = .ok (.getfield 134, 3) := by decide +kernel
theorem dX5_taken_86 : decode cX5_taken 86 = .ok (.aload_n 3, 1) := by decide +kernel
theorem dX5_taken_87 : decode cX5_taken 87 = .ok (.getfield 302, 3) := by decide +kernel
theorem dX5_taken_90 : decode cX5_taken 90 = .ok (.iaload, 1) := by decide +kernel
theorem dX5_taken_91 : decode cX5_taken 91 = .ok (.iload_n 2, 1) := by decide +kernel
theorem dX5_taken_92 : decode cX5_taken 92 = .ok (.invokestatic 305, 3) := by decide +kernel
theorem dX5_taken_95 : decode cX5_taken 95 = .ok (.ifCond .eq 10, 3) := by decide +kernel
theorem dX5_taken_98 : decode cX5_taken 98 = .ok (.aload_n 3, 1) := by decide +kernel
theorem dX5_taken_99 : decode cX5_taken 99 = .ok (.getfield 302, 3) := by decide +kernel
theorem dX5_taken_102 : decode cX5_taken 102 = .ok (.goto 5, 3) := by decide +kernel
theorem dX5_taken_105 : decode cX5_taken 105 = .ok (.bipush (-13), 2) := by decide +kernel
theorem dX5_taken_107 : decode cX5_taken 107 = .ok (.ireturn, 1) := by decide +kernel
theorem dX5_act_0 : decode cX5_act 0 = .ok (.aload_n 0, 1) := by decide +kernel
theorem dX5_act_1 : decode cX5_act 1 = .ok (.iload_n 1, 1) := by decide +kernel
theorem dX5_act_2 : decode cX5_act 2 = .ok (.invokevirtual 281, 3) := by decide +kernel
theorem dX5_act_5 : decode cX5_act 5 = .ok (.astore 4, 2) := by decide +kernel
theorem dX5_act_7 : decode cX5_act 7 = .ok (.aload_n 0, 1) := by decide +kernel
theorem dX5_act_8 : decode cX5_act 8 = .ok (.getfield 44, 3) := by decide +kernel
theorem dX5_act_11 : decode cX5_act 11 = .ok (.iconst 0, 1) := by decide +kernel
theorem dX5_act_12 : decode cX5_act 12 = .ok (.putfield 308, 3) := by decide +kernel
theorem dX5_act_15 : decode cX5_act 15 = .ok (.aload 4, 2) := by decide +kernel
theorem dX5_act_17 : decode cX5_act 17 = .ok (.ifnull 21, 3) := by decide +kernel
theorem dX5_act_20 : decode cX5_act 20 = .ok (.aload_n 0, 1) := by decide +kernel
theorem dX5_act_21 : decode cX5_act 21 = .ok (.aload 4, 2) := by decide +kernel
theorem dX5_act_23 : decode cX5_act 23 = .ok (.invokevirtual 298, 3) := by decide +kernel
theorem dX5_act_26 : decode cX5_act 26 = .ok (.ifCond .eq 12, 3) := by decide +kernel
theorem dX5_act_29 : decode cX5_act 29 = .ok (.iload_n 2, 1) := by decide +kernel
theorem dX5_act_30 : decode cX5_act 30 = .ok (.iconst 0, 1) := by decide +kernel
theorem dX5_act_31 : decode cX5_act 31 = .ok (.iconst 3, 1) := by decide +kernel
theorem dX5_act_32 : decode cX5_act 32 = .ok (.invokestatic 77, 3) := by decide +kernel
theorem dX5_act_35 : decode cX5_act 35 = .ok (.ifCond .ne 5, 3) := by decide +kernel
theorem dX5_act_38 : decode cX5_act 38 = .ok (.iconst 0, 1) := by decide +kernel
theorem dX5_act_39 : decode cX5_act 39 = .ok (.ireturn, 1) := by decide +kernel
theorem dX5_act_40 : decode cX5_act 40 = .ok (.aload_n 0, 1) := by decide +kernel
theorem dX5_act_41 : decode cX5_act 41 = .ok (.getfield 44, 3) := by decide +kernel
theorem dX5_act_44 : decode cX5_act 44 = .ok (.aload_n 0, 1) := by decide +kernel
theorem dX5_act_45 : decode cX5_act 45 = .ok (.getfield 10, 3) := by decide +kernel
theorem dX5_act_48 : decode cX5_act 48 = .ok (.getfield 134, 3) := by decide +kernel
theorem dX5_act_51 : decode cX5_act 51 = .ok (.aload 4, 2) := by decide +kernel
theorem dX5_act_53 : decode cX5_act 53 = .ok (.getfield 302, 3) := by decide +kernel
theorem dX5_act_56 : decode cX5_act 56 = .ok (.iaload, 1) := by decide +kernel
theorem dX5_act_57 : decode cX5_act 57 = .ok (.aload 4, 2) := by decide +kernel
theorem dX5_act_59 : decode cX5_act 59 = .ok (.getfield 302, 3) := by decide +kernel
theorem dX5_act_62 : decode cX5_act 62 = .ok (.aload_n 0, 1) := by decide +kernel
theorem dX5_act_63 : decode cX5_act 63 = .ok (.getfield 10, 3) := by decide +kernel
theorem dX5_act_66 : decode cX5_act 66 = .ok (.getfield 137, 3) := by decide +kernel
theorem dX5_act_69 : decode cX5_act 69 = .ok (.aload 4, 2) := by decide +kernel
theorem dX5_act_71 : decode cX5_act 71 = .ok (.getfield 302, 3) := by decide +kernel
theorem dX5_act_74 : decode cX5_act 74 = .ok (.iaload, 1) := by decide +kernel
theorem dX5_act_75 : decode cX5_act 75 = .ok (.invokevirtual 311, 3) := by decide +kernel
theorem dX5_act_78 : decode cX5_act 78 = .ok (.aload_n 0, 1) := by decide +kernel
theorem dX5_act_79 : decode cX5_act 79 = .ok (.getfield 44, 3) := by decide +kernel
theorem dX5_act_82 : decode cX5_act 82 = .ok (.iload_n 2, 1) := by decide +kernel
theorem dX5_act_83 : decode cX5_act 83 = .ok (.iload_n 3, 1) := by decide +kernel
theorem dX5_act_84 : decode cX5_act 84 = .ok (.invokevirtual 315, 3) := by decide +kernel
theorem dX5_act_87 : decode cX5_act 87 = .ok (.istore 5, 2) := by decide +kernel
theorem dX5_act_89 : decode cX5_act 89 = .ok (.aload_n 0, 1) := by decide +kernel
theorem dX5_act_90 : decode cX5_act 90 = .ok (.getfield 44, 3) := by decide +kernel
theorem dX5_act_93 : decode cX5_act 93 = .ok (.getfield 318, 3) := by decide +kernel
theorem dX5_act_96 : decode cX5_act 96 = .ok (.ifCond .eq 8, 3) := by decide +kernel
theorem dX5_act_99 : decode cX5_act 99 = .ok (.bipush (-15), 2) := by decide +kernel
theorem dX5_act_101 : decode cX5_act 101 = .ok (.goto 5, 3) := by decide +kernel
theorem dX5_act_104 : decode cX5_act 104 = .ok (.iload 5, 2) := by decide +kernel
theorem dX5_act_106 : decode cX5_act 106 = .ok (.ireturn, 1) := by decide +kernel
theorem dX5_trace_0 : decode cX5_trace 0 = .ok (.iload_n 1, 1) := by decide +kernel
theorem dX5_trace_1 : decode cX5_trace 1 = .ok (.iconst 0, 1) := by decide +kernel
theorem dX5_trace_2 : decode cX5_trace 2 = .ok (.aload_n 0, 1) := by decide +kernel
theorem dX5_trace_3 : decode cX5_trace 3 = .ok (.getfield 44, 3) := by decide +kernel
theorem dX5_trace_6 : decode cX5_trace 6 = .ok (.getfield 308, 3) := by decide +kernel
theorem dX5_trace_9 : decode cX5_trace 9 = .ok (.iconst 1, 1) := by decide +kernel
theorem dX5_trace_10 : decode cX5_trace 10 = .ok (.isub, 1) := by decide +kernel
theorem dX5_trace_11 : decode cX5_trace 11 = .ok (.invokestatic 77, 3) := by decide +kernel
theorem dX5_trace_14 : decode cX5_trace 14 = .ok (.ifCond .eq 15, 3) := by decide +kernel
theorem dX5_trace_17 : decode cX5_trace 17 = .ok (.aload_n 0, 1) := by decide +kernel
theorem dX5_trace_18 : decode cX5_trace 18 = .ok (.getfield 44, 3) := by decide +kernel
theorem dX5_trace_21 : decode cX5_trace 21 = .ok (.getfield 321, 3) := by decide +kernel
theorem dX5_trace_24 : decode cX5_trace 24 = .ok (.iload_n 1, 1) := by decide +kernel
theorem dX5_trace_25 : decode cX5_trace 25 = .ok (.iaload, 1) := by decide +kernel
theorem dX5_trace_26 : decode cX5_trace 26 = .ok (.goto 5, 3) := by decide +kernel
theorem dX5_trace_29 : decode cX5_trace 29 = .ok (.bipush (-3), 2) := by decide +kernel
theorem dX5_trace_31 : decode cX5_trace 31 = .ok (.ireturn, 1) := by decide +kernel
theorem dX5_many_0 : decode cX5_many 0 = .ok (.iload_n 1, 1) := by decide +kernel
theorem dX5_many_1 : decode cX5_many 1 = .ok (.tableswitch 106 0 6 #[43, 51, 62, 73, 85, 90, 98], 43) := by decide +kernel
theorem dX5_many_44 : decode cX5_many 44 = .ok (.aload_n 0, 1) := by decide +kernel
theorem dX5_many_45 : decode cX5_many 45 = .ok (.getfield 10, 3) := by decide +kernel
theorem dX5_many_48 : decode cX5_many 48 = .ok (.getfield 102, 3) := by decide +kernel
theorem dX5_many_51 : decode cX5_many 51 = .ok (.ireturn, 1) := by decide +kernel
theorem dX5_many_52 : decode cX5_many 52 = .ok (.aload_n 0, 1) := by decide +kernel
theorem dX5_many_53 : decode cX5_many 53 = .ok (.getfield 10, 3) := by decide +kernel
theorem dX5_many_56 : decode cX5_many 56 = .ok (.invokevirtual 165, 3) := by decide +kernel
theorem dX5_many_59 : decode cX5_many 59 = .ok (.invokestatic 169, 3) := by decide +kernel
theorem dX5_many_62 : decode cX5_many 62 = .ok (.ireturn, 1) := by decide +kernel
theorem dX5_many_63 : decode cX5_many 63 = .ok (.aload_n 0, 1) := by decide +kernel
theorem dX5_many_64 : decode cX5_many 64 = .ok (.getfield 10, 3) := by decide +kernel
theorem dX5_many_67 : decode cX5_many 67 = .ok (.invokevirtual 193, 3) := by decide +kernel
theorem dX5_many_70 : decode cX5_many 70 = .ok (.invokestatic 169, 3) := by decide +kernel
theorem dX5_many_73 : decode cX5_many 73 = .ok (.ireturn, 1) := by decide +kernel
theorem dX5_many_74 : decode cX5_many 74 = .ok (.aload_n 0, 1) := by decide +kernel
theorem dX5_many_75 : decode cX5_many 75 = .ok (.getfield 10, 3) := by decide +kernel
theorem dX5_many_78 : decode cX5_many 78 = .ok (.iconst 1, 1) := by decide +kernel
theorem dX5_many_79 : decode cX5_many 79 = .ok (.invokevirtual 196, 3) := by decide +kernel
theorem dX5_many_82 : decode cX5_many 82 = .ok (.invokestatic 169, 3) := by decide +kernel
theorem dX5_many_85 : decode cX5_many 85 = .ok (.ireturn, 1) := by decide +kernel
theorem dX5_many_86 : decode cX5_many 86 = .ok (.aload_n 0, 1) := by decide +kernel
theorem dX5_many_87 : decode cX5_many 87 = .ok (.getfield 67, 3) := by decide +kernel
theorem dX5_many_90 : decode cX5_many 90 = .ok (.ireturn, 1) := by decide +kernel
theorem dX5_many_91 : decode cX5_many 91 = .ok (.aload_n 0, 1) := by decide +kernel
theorem dX5_many_92 : decode cX5_many 92 = .ok (.getfield 25, 3) := by decide +kernel
theorem dX5_many_95 : decode cX5_many 95 = .ok (.getfield 85, 3) := by decide +kernel
theorem dX5_many_98 : decode cX5_many 98 = .ok (.ireturn, 1) := by decide +kernel
theorem dX5_many_99 : decode cX5_many 99 = .ok (.aload_n 0, 1) := by decide +kernel
theorem dX5_many_100 : decode cX5_many 100 = .ok (.getfield 44, 3) := by decide +kernel
theorem dX5_many_103 : decode cX5_many 103 = .ok (.getfield 308, 3) := by decide +kernel
theorem dX5_many_106 : decode cX5_many 106 = .ok (.ireturn, 1) := by decide +kernel
theorem dX5_many_107 : decode cX5_many 107 = .ok (.iconst (-1), 1) := by decide +kernel
theorem dX5_many_108 : decode cX5_many 108 = .ok (.ireturn, 1) := by decide +kernel
theorem dX5_keep_0 : decode cX5_keep 0 = .ok (.aload_n 0, 1) := by decide +kernel
theorem dX5_keep_1 : decode cX5_keep 1 = .ok (.getfield 16, 3) := by decide +kernel
theorem dX5_keep_4 : decode cX5_keep 4 = .ok (.aload_n 0, 1) := by decide +kernel
theorem dX5_keep_5 : decode cX5_keep 5 = .ok (.getfield 10, 3) := by decide +kernel
theorem dX5_keep_8 : decode cX5_keep 8 = .ok (.invokevirtual 98, 3) := by decide +kernel
theorem dX5_keep_11 : decode cX5_keep 11 = .ok (.aload_n 0, 1) := by decide +kernel
theorem dX5_keep_12 : decode cX5_keep 12 = .ok (.iconst 1, 1) := by decide +kernel
theorem dX5_keep_13 : decode cX5_keep 13 = .ok (.putfield 71, 3) := by decide +kernel
theorem dX5_keep_16 : decode cX5_keep 16 = .ok (.iconst 1, 1) := by decide +kernel
theorem dX5_keep_17 : decode cX5_keep 17 = .ok (.ireturn, 1) := by decide +kernel
theorem dX5_again_0 : decode cX5_again 0 = .ok (.aload_n 0, 1) := by decide +kernel
theorem dX5_again_1 : decode cX5_again 1 = .ok (.getfield 71, 3) := by decide +kernel
theorem dX5_again_4 : decode cX5_again 4 = .ok (.ifCond .ne 6, 3) := by decide +kernel
theorem dX5_again_7 : decode cX5_again 7 = .ok (.bipush (-3), 2) := by decide +kernel
theorem dX5_again_9 : decode cX5_again 9 = .ok (.ireturn, 1) := by decide +kernel
theorem dX5_again_10 : decode cX5_again 10 = .ok (.aload_n 0, 1) := by decide +kernel
theorem dX5_again_11 : decode cX5_again 11 = .ok (.getfield 10, 3) := by decide +kernel
theorem dX5_again_14 : decode cX5_again 14 = .ok (.aload_n 0, 1) := by decide +kernel
theorem dX5_again_15 : decode cX5_again 15 = .ok (.getfield 16, 3) := by decide +kernel
theorem dX5_again_18 : decode cX5_again 18 = .ok (.invokevirtual 98, 3) := by decide +kernel
theorem dX5_again_21 : decode cX5_again 21 = .ok (.aload_n 0, 1) := by decide +kernel
theorem dX5_again_22 : decode cX5_again 22 = .ok (.getfield 10, 3) := by decide +kernel
theorem dX5_again_25 : decode cX5_again 25 = .ok (.getfield 102, 3) := by decide +kernel
theorem dX5_again_28 : decode cX5_again 28 = .ok (.ireturn, 1) := by decide +kernel
theorem dX5_tryWalk_0 : decode cX5_tryWalk 0 = .ok (.aload_n 0, 1) := by decide +kernel
theorem dX5_tryWalk_1 : decode cX5_tryWalk 1 = .ok (.getfield 19, 3) := by decide +kernel
theorem dX5_tryWalk_4 : decode cX5_tryWalk 4 = .ok (.aload_n 0, 1) := by decide +kernel
theorem dX5_tryWalk_5 : decode cX5_tryWalk 5 = .ok (.getfield 10, 3) := by decide +kernel
theorem dX5_tryWalk_8 : decode cX5_tryWalk 8 = .ok (.invokevirtual 98, 3) := by decide +kernel
theorem dX5_tryWalk_11 : decode cX5_tryWalk 11 = .ok (.aload_n 0, 1) := by decide +kernel
theorem dX5_tryWalk_12 : decode cX5_tryWalk 12 = .ok (.getfield 19, 3) := by decide +kernel
theorem dX5_tryWalk_15 : decode cX5_tryWalk 15 = .ok (.iload_n 1, 1) := by decide +kernel
theorem dX5_tryWalk_16 : decode cX5_tryWalk 16 = .ok (.iload_n 2, 1) := by decide +kernel
theorem dX5_tryWalk_17 : decode cX5_tryWalk 17 = .ok (.aload_n 3, 1) := by decide +kernel
theorem dX5_tryWalk_18 : decode cX5_tryWalk 18 = .ok (.invokevirtual 203, 3) := by decide +kernel
theorem dX5_tryWalk_21 : decode cX5_tryWalk 21 = .ok (.return_, 1) := by decide +kernel
theorem dX5_offOfTried_0 : decode cX5_offOfTried 0 = .ok (.aload_n 0, 1) := by decide +kernel
theorem dX5_offOfTried_1 : decode cX5_offOfTried 1 = .ok (.getfield 19, 3) := by decide +kernel
theorem dX5_offOfTried_4 : decode cX5_offOfTried 4 = .ok (.iload_n 1, 1) := by decide +kernel
theorem dX5_offOfTried_5 : decode cX5_offOfTried 5 = .ok (.iload_n 2, 1) := by decide +kernel
theorem dX5_offOfTried_6 : decode cX5_offOfTried 6 = .ok (.aload_n 0, 1) := by decide +kernel
theorem dX5_offOfTried_7 : decode cX5_offOfTried 7 = .ok (.getfield 52, 3) := by decide +kernel
theorem dX5_offOfTried_10 : decode cX5_offOfTried 10 = .ok (.invokevirtual 203, 3) := by decide +kernel
theorem dX5_offOfTried_13 : decode cX5_offOfTried 13 = .ok (.aload_n 0, 1) := by decide +kernel
theorem dX5_offOfTried_14 : decode cX5_offOfTried 14 = .ok (.getfield 52, 3) := by decide +kernel
theorem dX5_offOfTried_17 : decode cX5_offOfTried 17 = .ok (.iload_n 2, 1) := by decide +kernel
theorem dX5_offOfTried_18 : decode cX5_offOfTried 18 = .ok (.iaload, 1) := by decide +kernel
theorem dX5_offOfTried_19 : decode cX5_offOfTried 19 = .ok (.aload_n 0, 1) := by decide +kernel
theorem dX5_offOfTried_20 : decode cX5_offOfTried 20 = .ok (.getfield 10, 3) := by decide +kernel
theorem dX5_offOfTried_23 : decode cX5_offOfTried 23 = .ok (.getfield 140, 3) := by decide +kernel
theorem dX5_offOfTried_26 : decode cX5_offOfTried 26 = .ok (.iload_n 1, 1) := by decide +kernel
theorem dX5_offOfTried_27 : decode cX5_offOfTried 27 = .ok (.iaload, 1) := by decide +kernel
theorem dX5_offOfTried_28 : decode cX5_offOfTried 28 = .ok (.invokestatic 324, 3) := by decide +kernel
theorem dX5_offOfTried_31 : decode cX5_offOfTried 31 = .ok (.ireturn, 1) := by decide +kernel
theorem dX5_fewestThatSee_0 : decode cX5_fewestThatSee 0 = .ok (.aload_n 0, 1) := by decide +kernel
theorem dX5_fewestThatSee_1 : decode cX5_fewestThatSee 1 = .ok (.getfield 64, 3) := by decide +kernel
theorem dX5_fewestThatSee_4 : decode cX5_fewestThatSee 4 = .ok (.bipush 16, 2) := by decide +kernel
theorem dX5_fewestThatSee_6 : decode cX5_fewestThatSee 6 = .ok (.invokestatic 210, 3) := by decide +kernel
theorem dX5_fewestThatSee_9 : decode cX5_fewestThatSee 9 = .ok (.aload_n 0, 1) := by decide +kernel
theorem dX5_fewestThatSee_10 : decode cX5_fewestThatSee 10 = .ok (.getfield 64, 3) := by decide +kernel
theorem dX5_fewestThatSee_13 : decode cX5_fewestThatSee 13 = .ok (.iconst 0, 1) := by decide +kernel
theorem dX5_fewestThatSee_14 : decode cX5_fewestThatSee 14 = .ok (.iconst 0, 1) := by decide +kernel
theorem dX5_fewestThatSee_15 : decode cX5_fewestThatSee 15 = .ok (.iastore, 1) := by decide +kernel
theorem dX5_fewestThatSee_16 : decode cX5_fewestThatSee 16 = .ok (.iconst 0, 1) := by decide +kernel
theorem dX5_fewestThatSee_17 : decode cX5_fewestThatSee 17 = .ok (.istore_n 2, 1) := by decide +kernel
theorem dX5_fewestThatSee_18 : decode cX5_fewestThatSee 18 = .ok (.iload_n 2, 1) := by decide +kernel
theorem dX5_fewestThatSee_19 : decode cX5_fewestThatSee 19 = .ok (.bipush 16, 2) := by decide +kernel
theorem dX5_fewestThatSee_21 : decode cX5_fewestThatSee 21 = .ok (.if_icmp .ge 57, 3) := by decide +kernel
theorem dX5_fewestThatSee_24 : decode cX5_fewestThatSee 24 = .ok (.iconst 0, 1) := by decide +kernel
theorem dX5_fewestThatSee_25 : decode cX5_fewestThatSee 25 = .ok (.istore_n 3, 1) := by decide +kernel
theorem dX5_fewestThatSee_26 : decode cX5_fewestThatSee 26 = .ok (.iload_n 3, 1) := by decide +kernel
theorem dX5_fewestThatSee_27 : decode cX5_fewestThatSee 27 = .ok (.iload_n 1, 1) := by decide +kernel
theorem dX5_fewestThatSee_28 : decode cX5_fewestThatSee 28 = .ok (.if_icmp .gt 44, 3) := by decide +kernel
theorem dX5_fewestThatSee_31 : decode cX5_fewestThatSee 31 = .ok (.iload_n 3, 1) := by decide +kernel
theorem dX5_fewestThatSee_32 : decode cX5_fewestThatSee 32 = .ok (.aload_n 0, 1) := by decide +kernel
theorem dX5_fewestThatSee_33 : decode cX5_fewestThatSee 33 = .ok (.getfield 61, 3) := by decide +kernel
theorem dX5_fewestThatSee_36 : decode cX5_fewestThatSee 36 = .ok (.iload_n 2, 1) := by decide +kernel
theorem dX5_fewestThatSee_37 : decode cX5_fewestThatSee 37 = .ok (.iaload, 1) := by decide +kernel
theorem dX5_fewestThatSee_38 : decode cX5_fewestThatSee 38 = .ok (.ior, 1) := by decide +kernel
theorem dX5_fewestThatSee_39 : decode cX5_fewestThatSee 39 = .ok (.istore 4, 2) := by decide +kernel
theorem dX5_fewestThatSee_41 : decode cX5_fewestThatSee 41 = .ok (.aload_n 0, 1) := by decide +kernel
theorem dX5_fewestThatSee_42 : decode cX5_fewestThatSee 42 = .ok (.getfield 64, 3) := by decide +kernel
theorem dX5_fewestThatSee_45 : decode cX5_fewestThatSee 45 = .ok (.iload 4, 2) := by decide +kernel
theorem dX5_fewestThatSee_47 : decode cX5_fewestThatSee 47 = .ok (.aload_n 0, 1) := by decide +kernel
theorem dX5_fewestThatSee_48 : decode cX5_fewestThatSee 48 = .ok (.getfield 64, 3) := by decide +kernel
theorem dX5_fewestThatSee_51 : decode cX5_fewestThatSee 51 = .ok (.iload 4, 2) := by decide +kernel
theorem dX5_fewestThatSee_53 : decode cX5_fewestThatSee 53 = .ok (.iaload, 1) := by decide +kernel
theorem dX5_fewestThatSee_54 : decode cX5_fewestThatSee 54 = .ok (.aload_n 0, 1) := by decide +kernel
theorem dX5_fewestThatSee_55 : decode cX5_fewestThatSee 55 = .ok (.getfield 64, 3) := by decide +kernel
theorem dX5_fewestThatSee_58 : decode cX5_fewestThatSee 58 = .ok (.iload_n 3, 1) := by decide +kernel
theorem dX5_fewestThatSee_59 : decode cX5_fewestThatSee 59 = .ok (.iaload, 1) := by decide +kernel
theorem dX5_fewestThatSee_60 : decode cX5_fewestThatSee 60 = .ok (.iconst 1, 1) := by decide +kernel
theorem dX5_fewestThatSee_61 : decode cX5_fewestThatSee 61 = .ok (.iadd, 1) := by decide +kernel
theorem dX5_fewestThatSee_62 : decode cX5_fewestThatSee 62 = .ok (.invokestatic 327, 3) := by decide +kernel
theorem dX5_fewestThatSee_65 : decode cX5_fewestThatSee 65 = .ok (.iastore, 1) := by decide +kernel
theorem dX5_fewestThatSee_66 : decode cX5_fewestThatSee 66 = .ok (.iinc 3 1, 3) := by decide +kernel
theorem dX5_fewestThatSee_69 : decode cX5_fewestThatSee 69 = .ok (.goto (-43), 3) := by decide +kernel
theorem dX5_fewestThatSee_72 : decode cX5_fewestThatSee 72 = .ok (.iinc 2 1, 3) := by decide +kernel
theorem dX5_fewestThatSee_75 : decode cX5_fewestThatSee 75 = .ok (.goto (-57), 3) := by decide +kernel
theorem dX5_fewestThatSee_78 : decode cX5_fewestThatSee 78 = .ok (.aload_n 0, 1) := by decide +kernel
theorem dX5_fewestThatSee_79 : decode cX5_fewestThatSee 79 = .ok (.getfield 64, 3) := by decide +kernel
theorem dX5_fewestThatSee_82 : decode cX5_fewestThatSee 82 = .ok (.iload_n 1, 1) := by decide +kernel
theorem dX5_fewestThatSee_83 : decode cX5_fewestThatSee 83 = .ok (.iaload, 1) := by decide +kernel
theorem dX5_fewestThatSee_84 : decode cX5_fewestThatSee 84 = .ok (.ireturn, 1) := by decide +kernel
theorem dX5_fitsFrom_0 : decode cX5_fitsFrom 0 = .ok (.aload_n 0, 1) := by decide +kernel
theorem dX5_fitsFrom_1 : decode cX5_fitsFrom 1 = .ok (.getfield 19, 3) := by decide +kernel
theorem dX5_fitsFrom_4 : decode cX5_fitsFrom 4 = .ok (.aload_n 0, 1) := by decide +kernel
theorem dX5_fitsFrom_5 : decode cX5_fitsFrom 5 = .ok (.getfield 10, 3) := by decide +kernel
theorem dX5_fitsFrom_8 : decode cX5_fitsFrom 8 = .ok (.invokevirtual 98, 3) := by decide +kernel
theorem dX5_fitsFrom_11 : decode cX5_fitsFrom 11 = .ok (.aload_n 0, 1) := by decide +kernel
theorem dX5_fitsFrom_12 : decode cX5_fitsFrom 12 = .ok (.getfield 19, 3) := by decide +kernel
theorem dX5_fitsFrom_15 : decode cX5_fitsFrom 15 = .ok (.getfield 143, 3) := by decide +kernel
theorem dX5_fitsFrom_18 : decode cX5_fitsFrom 18 = .ok (.iload_n 2, 1) := by decide +kernel
theorem dX5_fitsFrom_19 : decode cX5_fitsFrom 19 = .ok (.iload_n 1, 1) := by decide +kernel
theorem dX5_fitsFrom_20 : decode cX5_fitsFrom 20 = .ok (.iastore, 1) := by decide +kernel
theorem dX5_fitsFrom_21 : decode cX5_fitsFrom 21 = .ok (.aload_n 0, 1) := by decide +kernel
theorem dX5_fitsFrom_22 : decode cX5_fitsFrom 22 = .ok (.getfield 19, 3) := by decide +kernel
theorem dX5_fitsFrom_25 : decode cX5_fitsFrom 25 = .ok (.iload_n 2, 1) := by decide +kernel
theorem dX5_fitsFrom_26 : decode cX5_fitsFrom 26 = .ok (.aload_n 3, 1) := by decide +kernel
theorem dX5_fitsFrom_27 : decode cX5_fitsFrom 27 = .ok (.getfield 264, 3) := by decide +kernel
theorem dX5_fitsFrom_30 : decode cX5_fitsFrom 30 = .ok (.aload_n 0, 1) := by decide +kernel
theorem dX5_fitsFrom_31 : decode cX5_fitsFrom 31 = .ok (.getfield 52, 3) := by decide +kernel
theorem dX5_fitsFrom_34 : decode cX5_fitsFrom 34 = .ok (.invokevirtual 203, 3) := by decide +kernel
theorem dX5_fitsFrom_37 : decode cX5_fitsFrom 37 = .ok (.iconst 0, 1) := by decide +kernel
theorem dX5_fitsFrom_38 : decode cX5_fitsFrom 38 = .ok (.istore 4, 2) := by decide +kernel
theorem dX5_fitsFrom_40 : decode cX5_fitsFrom 40 = .ok (.iload 4, 2) := by decide +kernel
theorem dX5_fitsFrom_42 : decode cX5_fitsFrom 42 = .ok (.aload_n 3, 1) := by decide +kernel
theorem dX5_fitsFrom_43 : decode cX5_fitsFrom 43 = .ok (.getfield 264, 3) := by decide +kernel
theorem dX5_fitsFrom_46 : decode cX5_fitsFrom 46 = .ok (.if_icmp .ge 41, 3) := by decide +kernel
theorem dX5_fitsFrom_49 : decode cX5_fitsFrom 49 = .ok (.aload_n 3, 1) := by decide +kernel
theorem dX5_fitsFrom_50 : decode cX5_fitsFrom 50 = .ok (.getfield 265, 3) := by decide +kernel
theorem dX5_fitsFrom_53 : decode cX5_fitsFrom 53 = .ok (.iload 4, 2) := by decide +kernel
theorem dX5_fitsFrom_55 : decode cX5_fitsFrom 55 = .ok (.iaload, 1) := by decide +kernel
theorem dX5_fitsFrom_56 : decode cX5_fitsFrom 56 = .ok (.iconst (-1), 1) := by decide +kernel
theorem dX5_fitsFrom_57 : decode cX5_fitsFrom 57 = .ok (.if_icmp .eq 24, 3) := by decide +kernel
theorem dX5_fitsFrom_60 : decode cX5_fitsFrom 60 = .ok (.aload_n 3, 1) := by decide +kernel
theorem dX5_fitsFrom_61 : decode cX5_fitsFrom 61 = .ok (.getfield 265, 3) := by decide +kernel
theorem dX5_fitsFrom_64 : decode cX5_fitsFrom 64 = .ok (.iload 4, 2) := by decide +kernel
theorem dX5_fitsFrom_66 : decode cX5_fitsFrom 66 = .ok (.iaload, 1) := by decide +kernel
theorem dX5_fitsFrom_67 : decode cX5_fitsFrom 67 = .ok (.aload_n 0, 1) := by decide +kernel
theorem dX5_fitsFrom_68 : decode cX5_fitsFrom 68 = .ok (.getfield 52, 3) := by decide +kernel
theorem dX5_fitsFrom_71 : decode cX5_fitsFrom 71 = .ok (.iload 4, 2) := by decide +kernel
theorem dX5_fitsFrom_73 : decode cX5_fitsFrom 73 = .ok (.iconst 1, 1) := by decide +kernel
theorem dX5_fitsFrom_74 : decode cX5_fitsFrom 74 = .ok (.iadd, 1) := by decide +kernel
theorem dX5_fitsFrom_75 : decode cX5_fitsFrom 75 = .ok (.iaload, 1) := by decide +kernel
theorem dX5_fitsFrom_76 : decode cX5_fitsFrom 76 = .ok (.if_icmp .eq 5, 3) := by decide +kernel
theorem dX5_fitsFrom_79 : decode cX5_fitsFrom 79 = .ok (.iconst 0, 1) := by decide +kernel
theorem dX5_fitsFrom_80 : decode cX5_fitsFrom 80 = .ok (.ireturn, 1) := by decide +kernel
theorem dX5_fitsFrom_81 : decode cX5_fitsFrom 81 = .ok (.iinc 4 1, 3) := by decide +kernel
theorem dX5_fitsFrom_84 : decode cX5_fitsFrom 84 = .ok (.goto (-44), 3) := by decide +kernel
theorem dX5_fitsFrom_87 : decode cX5_fitsFrom 87 = .ok (.iconst 1, 1) := by decide +kernel
theorem dX5_fitsFrom_88 : decode cX5_fitsFrom 88 = .ok (.ireturn, 1) := by decide +kernel
theorem dX5_isRow_0 : decode cX5_isRow 0 = .ok (.iload_n 1, 1) := by decide +kernel
theorem dX5_isRow_1 : decode cX5_isRow 1 = .ok (.iconst 0, 1) := by decide +kernel
theorem dX5_isRow_2 : decode cX5_isRow 2 = .ok (.aload_n 0, 1) := by decide +kernel
theorem dX5_isRow_3 : decode cX5_isRow 3 = .ok (.getfield 67, 3) := by decide +kernel
theorem dX5_isRow_6 : decode cX5_isRow 6 = .ok (.iconst 1, 1) := by decide +kernel
theorem dX5_isRow_7 : decode cX5_isRow 7 = .ok (.isub, 1) := by decide +kernel
theorem dX5_isRow_8 : decode cX5_isRow 8 = .ok (.invokestatic 77, 3) := by decide +kernel
theorem dX5_isRow_11 : decode cX5_isRow 11 = .ok (.ifCond .eq 16, 3) := by decide +kernel
theorem dX5_isRow_14 : decode cX5_isRow 14 = .ok (.iload_n 2, 1) := by decide +kernel
theorem dX5_isRow_15 : decode cX5_isRow 15 = .ok (.iconst 0, 1) := by decide +kernel
theorem dX5_isRow_16 : decode cX5_isRow 16 = .ok (.iconst 2, 1) := by decide +kernel
theorem dX5_isRow_17 : decode cX5_isRow 17 = .ok (.invokestatic 77, 3) := by decide +kernel
theorem dX5_isRow_20 : decode cX5_isRow 20 = .ok (.ifCond .eq 7, 3) := by decide +kernel
theorem dX5_isRow_23 : decode cX5_isRow 23 = .ok (.iconst 1, 1) := by decide +kernel
theorem dX5_isRow_24 : decode cX5_isRow 24 = .ok (.goto 4, 3) := by decide +kernel
theorem dX5_isRow_27 : decode cX5_isRow 27 = .ok (.iconst 0, 1) := by decide +kernel
theorem dX5_isRow_28 : decode cX5_isRow 28 = .ok (.ireturn, 1) := by decide +kernel
theorem dX5_sheetAt_0 : decode cX5_sheetAt 0 = .ok (.iload_n 1, 1) := by decide +kernel
theorem dX5_sheetAt_1 : decode cX5_sheetAt 1 = .ok (.iconst 0, 1) := by decide +kernel
theorem dX5_sheetAt_2 : decode cX5_sheetAt 2 = .ok (.iconst 3, 1) := by decide +kernel
theorem dX5_sheetAt_3 : decode cX5_sheetAt 3 = .ok (.invokestatic 77, 3) := by decide +kernel
theorem dX5_sheetAt_6 : decode cX5_sheetAt 6 = .ok (.ifCond .eq 12, 3) := by decide +kernel
theorem dX5_sheetAt_9 : decode cX5_sheetAt 9 = .ok (.aload_n 0, 1) := by decide +kernel
theorem dX5_sheetAt_10 : decode cX5_sheetAt 10 = .ok (.getfield 31, 3) := by decide +kernel
theorem dX5_sheetAt_13 : decode cX5_sheetAt 13 = .ok (.iload_n 1, 1) := by decide +kernel
theorem dX5_sheetAt_14 : decode cX5_sheetAt 14 = .ok (.aaload, 1) := by decide +kernel
theorem dX5_sheetAt_15 : decode cX5_sheetAt 15 = .ok (.goto 4, 3) := by decide +kernel
theorem dX5_sheetAt_18 : decode cX5_sheetAt 18 = .ok (.aconst_null, 1) := by decide +kernel
theorem dX5_sheetAt_19 : decode cX5_sheetAt 19 = .ok (.areturn, 1) := by decide +kernel
theorem dX5_shelfAt_0 : decode cX5_shelfAt 0 = .ok (.iload_n 1, 1) := by decide +kernel
theorem dX5_shelfAt_1 : decode cX5_shelfAt 1 = .ok (.iconst 0, 1) := by decide +kernel
theorem dX5_shelfAt_2 : decode cX5_shelfAt 2 = .ok (.iconst 3, 1) := by decide +kernel
theorem dX5_shelfAt_3 : decode cX5_shelfAt 3 = .ok (.invokestatic 77, 3) := by decide +kernel
theorem dX5_shelfAt_6 : decode cX5_shelfAt 6 = .ok (.ifCond .eq 12, 3) := by decide +kernel
theorem dX5_shelfAt_9 : decode cX5_shelfAt 9 = .ok (.aload_n 0, 1) := by decide +kernel
theorem dX5_shelfAt_10 : decode cX5_shelfAt 10 = .ok (.getfield 37, 3) := by decide +kernel
theorem dX5_shelfAt_13 : decode cX5_shelfAt 13 = .ok (.iload_n 1, 1) := by decide +kernel
theorem dX5_shelfAt_14 : decode cX5_shelfAt 14 = .ok (.aaload, 1) := by decide +kernel
theorem dX5_shelfAt_15 : decode cX5_shelfAt 15 = .ok (.goto 4, 3) := by decide +kernel
theorem dX5_shelfAt_18 : decode cX5_shelfAt 18 = .ok (.aconst_null, 1) := by decide +kernel
theorem dX5_shelfAt_19 : decode cX5_shelfAt 19 = .ok (.areturn, 1) := by decide +kernel
theorem dX5_holdsAir_0 : decode cX5_holdsAir 0 = .ok (.aload_n 1, 1) := by decide +kernel
theorem dX5_holdsAir_1 : decode cX5_holdsAir 1 = .ok (.getfield 293, 3) := by decide +kernel
theorem dX5_holdsAir_4 : decode cX5_holdsAir 4 = .ok (.ifCond .ne 21, 3) := by decide +kernel
theorem dX5_holdsAir_7 : decode cX5_holdsAir 7 = .ok (.aload_n 0, 1) := by decide +kernel
theorem dX5_holdsAir_8 : decode cX5_holdsAir 8 = .ok (.getfield 10, 3) := by decide +kernel
theorem dX5_holdsAir_11 : decode cX5_holdsAir 11 = .ok (.aload_n 1, 1) := by decide +kernel
theorem dX5_holdsAir_12 : decode cX5_holdsAir 12 = .ok (.getfield 302, 3) := by decide +kernel
theorem dX5_holdsAir_15 : decode cX5_holdsAir 15 = .ok (.invokevirtual 131, 3) := by decide +kernel
theorem dX5_holdsAir_18 : decode cX5_holdsAir 18 = .ok (.ifCond .eq 7, 3) := by decide +kernel
theorem dX5_holdsAir_21 : decode cX5_holdsAir 21 = .ok (.iconst 1, 1) := by decide +kernel
theorem dX5_holdsAir_22 : decode cX5_holdsAir 22 = .ok (.goto 4, 3) := by decide +kernel
theorem dX5_holdsAir_25 : decode cX5_holdsAir 25 = .ok (.iconst 0, 1) := by decide +kernel
theorem dX5_holdsAir_26 : decode cX5_holdsAir 26 = .ok (.ireturn, 1) := by decide +kernel
theorem dX5_isWithin_0 : decode cX5_isWithin 0 = .ok (.iload_n 0, 1) := by decide +kernel
theorem dX5_isWithin_1 : decode cX5_isWithin 1 = .ok (.iload_n 1, 1) := by decide +kernel
theorem dX5_isWithin_2 : decode cX5_isWithin 2 = .ok (.if_icmp .lt 12, 3) := by decide +kernel
theorem dX5_isWithin_5 : decode cX5_isWithin 5 = .ok (.iload_n 0, 1) := by decide +kernel
theorem dX5_isWithin_6 : decode cX5_isWithin 6 = .ok (.iload_n 2, 1) := by decide +kernel
theorem dX5_isWithin_7 : decode cX5_isWithin 7 = .ok (.if_icmp .gt 7, 3) := by decide +kernel
theorem dX5_isWithin_10 : decode cX5_isWithin 10 = .ok (.iconst 1, 1) := by decide +kernel
theorem dX5_isWithin_11 : decode cX5_isWithin 11 = .ok (.goto 4, 3) := by decide +kernel
theorem dX5_isWithin_14 : decode cX5_isWithin 14 = .ok (.iconst 0, 1) := by decide +kernel
theorem dX5_isWithin_15 : decode cX5_isWithin 15 = .ok (.ireturn, 1) := by decide +kernel
theorem dX5_isLaw_0 : decode cX5_isLaw 0 = .ok (.iload_n 0, 1) := by decide +kernel
theorem dX5_isLaw_1 : decode cX5_isLaw 1 = .ok (.iconst 0, 1) := by decide +kernel
theorem dX5_isLaw_2 : decode cX5_isLaw 2 = .ok (.iconst 3, 1) := by decide +kernel
theorem dX5_isLaw_3 : decode cX5_isLaw 3 = .ok (.invokestatic 77, 3) := by decide +kernel
theorem dX5_isLaw_6 : decode cX5_isLaw 6 = .ok (.ireturn, 1) := by decide +kernel
theorem dX5_isKind_0 : decode cX5_isKind 0 = .ok (.iload_n 0, 1) := by decide +kernel
theorem dX5_isKind_1 : decode cX5_isKind 1 = .ok (.iconst 0, 1) := by decide +kernel
theorem dX5_isKind_2 : decode cX5_isKind 2 = .ok (.iconst 5, 1) := by decide +kernel
theorem dX5_isKind_3 : decode cX5_isKind 3 = .ok (.invokestatic 77, 3) := by decide +kernel
theorem dX5_isKind_6 : decode cX5_isKind 6 = .ok (.ireturn, 1) := by decide +kernel
theorem dX5_isForce_0 : decode cX5_isForce 0 = .ok (.iload_n 0, 1) := by decide +kernel
theorem dX5_isForce_1 : decode cX5_isForce 1 = .ok (.iconst 0, 1) := by decide +kernel
theorem dX5_isForce_2 : decode cX5_isForce 2 = .ok (.bipush 9, 2) := by decide +kernel
theorem dX5_isForce_4 : decode cX5_isForce 4 = .ok (.invokestatic 77, 3) := by decide +kernel
theorem dX5_isForce_7 : decode cX5_isForce 7 = .ok (.ireturn, 1) := by decide +kernel
theorem dX5_isHouse_0 : decode cX5_isHouse 0 = .ok (.iload_n 0, 1) := by decide +kernel
theorem dX5_isHouse_1 : decode cX5_isHouse 1 = .ok (.iconst 0, 1) := by decide +kernel
theorem dX5_isHouse_2 : decode cX5_isHouse 2 = .ok (.bipush 15, 2) := by decide +kernel
theorem dX5_isHouse_4 : decode cX5_isHouse 4 = .ok (.invokestatic 77, 3) := by decide +kernel
theorem dX5_isHouse_7 : decode cX5_isHouse 7 = .ok (.ireturn, 1) := by decide +kernel
theorem dX5_isIn_0 : decode cX5_isIn 0 = .ok (.iload_n 0, 1) := by decide +kernel
theorem dX5_isIn_1 : decode cX5_isIn 1 = .ok (.iload_n 1, 1) := by decide +kernel
theorem dX5_isIn_2 : decode cX5_isIn 2 = .ok (.iushr, 1) := by decide +kernel
theorem dX5_isIn_3 : decode cX5_isIn 3 = .ok (.iconst 1, 1) := by decide +kernel
theorem dX5_isIn_4 : decode cX5_isIn 4 = .ok (.iand, 1) := by decide +kernel
theorem dX5_isIn_5 : decode cX5_isIn 5 = .ok (.iconst 1, 1) := by decide +kernel
theorem dX5_isIn_6 : decode cX5_isIn 6 = .ok (.if_icmp .ne 7, 3) := by decide +kernel
theorem dX5_isIn_9 : decode cX5_isIn 9 = .ok (.iconst 1, 1) := by decide +kernel
theorem dX5_isIn_10 : decode cX5_isIn 10 = .ok (.goto 4, 3) := by decide +kernel
theorem dX5_isIn_13 : decode cX5_isIn 13 = .ok (.iconst 0, 1) := by decide +kernel
theorem dX5_isIn_14 : decode cX5_isIn 14 = .ok (.ireturn, 1) := by decide +kernel
theorem dX5_held_0 : decode cX5_held 0 = .ok (.iconst 0, 1) := by decide +kernel
theorem dX5_held_1 : decode cX5_held 1 = .ok (.iload_n 1, 1) := by decide +kernel
theorem dX5_held_2 : decode cX5_held 2 = .ok (.iload_n 0, 1) := by decide +kernel
theorem dX5_held_3 : decode cX5_held 3 = .ok (.invokestatic 327, 3) := by decide +kernel
theorem dX5_held_6 : decode cX5_held 6 = .ok (.invokestatic 332, 3) := by decide +kernel
theorem dX5_held_9 : decode cX5_held 9 = .ok (.ireturn, 1) := by decide +kernel
theorem dX5_isUnder_0 : decode cX5_isUnder 0 = .ok (.iload_n 1, 1) := by decide +kernel
theorem dX5_isUnder_1 : decode cX5_isUnder 1 = .ok (.tableswitch 61 0 2 #[27, 29, 45], 27) := by decide +kernel
theorem dX5_isUnder_28 : decode cX5_isUnder 28 = .ok (.iconst 1, 1) := by decide +kernel
theorem dX5_isUnder_29 : decode cX5_isUnder 29 = .ok (.ireturn, 1) := by decide +kernel
theorem dX5_isUnder_30 : decode cX5_isUnder 30 = .ok (.iload_n 0, 1) := by decide +kernel
theorem dX5_isUnder_31 : decode cX5_isUnder 31 = .ok (.iconst 1, 1) := by decide +kernel
theorem dX5_isUnder_32 : decode cX5_isUnder 32 = .ok (.if_icmp .eq 8, 3) := by decide +kernel
theorem dX5_isUnder_35 : decode cX5_isUnder 35 = .ok (.iload_n 0, 1) := by decide +kernel
theorem dX5_isUnder_36 : decode cX5_isUnder 36 = .ok (.iconst 3, 1) := by decide +kernel
theorem dX5_isUnder_37 : decode cX5_isUnder 37 = .ok (.if_icmp .ne 7, 3) := by decide +kernel
theorem dX5_isUnder_40 : decode cX5_isUnder 40 = .ok (.iconst 1, 1) := by decide +kernel
theorem dX5_isUnder_41 : decode cX5_isUnder 41 = .ok (.goto 4, 3) := by decide +kernel
theorem dX5_isUnder_44 : decode cX5_isUnder 44 = .ok (.iconst 0, 1) := by decide +kernel
theorem dX5_isUnder_45 : decode cX5_isUnder 45 = .ok (.ireturn, 1) := by decide +kernel
theorem dX5_isUnder_46 : decode cX5_isUnder 46 = .ok (.iload_n 0, 1) := by decide +kernel
theorem dX5_isUnder_47 : decode cX5_isUnder 47 = .ok (.iconst 2, 1) := by decide +kernel
theorem dX5_isUnder_48 : decode cX5_isUnder 48 = .ok (.if_icmp .eq 8, 3) := by decide +kernel
theorem dX5_isUnder_51 : decode cX5_isUnder 51 = .ok (.iload_n 0, 1) := by decide +kernel
theorem dX5_isUnder_52 : decode cX5_isUnder 52 = .ok (.iconst 4, 1) := by decide +kernel
theorem dX5_isUnder_53 : decode cX5_isUnder 53 = .ok (.if_icmp .ne 7, 3) := by decide +kernel
theorem dX5_isUnder_56 : decode cX5_isUnder 56 = .ok (.iconst 1, 1) := by decide +kernel
theorem dX5_isUnder_57 : decode cX5_isUnder 57 = .ok (.goto 4, 3) := by decide +kernel
theorem dX5_isUnder_60 : decode cX5_isUnder 60 = .ok (.iconst 0, 1) := by decide +kernel
theorem dX5_isUnder_61 : decode cX5_isUnder 61 = .ok (.ireturn, 1) := by decide +kernel
theorem dX5_isUnder_62 : decode cX5_isUnder 62 = .ok (.iload_n 0, 1) := by decide +kernel
theorem dX5_isUnder_63 : decode cX5_isUnder 63 = .ok (.iload_n 1, 1) := by decide +kernel
theorem dX5_isUnder_64 : decode cX5_isUnder 64 = .ok (.if_icmp .ne 7, 3) := by decide +kernel
theorem dX5_isUnder_67 : decode cX5_isUnder 67 = .ok (.iconst 1, 1) := by decide +kernel
theorem dX5_isUnder_68 : decode cX5_isUnder 68 = .ok (.goto 4, 3) := by decide +kernel
theorem dX5_isUnder_71 : decode cX5_isUnder 71 = .ok (.iconst 0, 1) := by decide +kernel
theorem dX5_isUnder_72 : decode cX5_isUnder 72 = .ok (.ireturn, 1) := by decide +kernel
theorem dX5_columnOf_0 : decode cX5_columnOf 0 = .ok (.iload_n 0, 1) := by decide +kernel
theorem dX5_columnOf_1 : decode cX5_columnOf 1 = .ok (.iconst 4, 1) := by decide +kernel
theorem dX5_columnOf_2 : decode cX5_columnOf 2 = .ok (.irem, 1) := by decide +kernel
theorem dX5_columnOf_3 : decode cX5_columnOf 3 = .ok (.ireturn, 1) := by decide +kernel
theorem dX5_rowOf_0 : decode cX5_rowOf 0 = .ok (.iload_n 0, 1) := by decide +kernel
theorem dX5_rowOf_1 : decode cX5_rowOf 1 = .ok (.iconst 4, 1) := by decide +kernel
theorem dX5_rowOf_2 : decode cX5_rowOf 2 = .ok (.idiv, 1) := by decide +kernel
theorem dX5_rowOf_3 : decode cX5_rowOf 3 = .ok (.ireturn, 1) := by decide +kernel
theorem dX5_apart_0 : decode cX5_apart 0 = .ok (.iload_n 0, 1) := by decide +kernel
theorem dX5_apart_1 : decode cX5_apart 1 = .ok (.invokestatic 335, 3) := by decide +kernel
theorem dX5_apart_4 : decode cX5_apart 4 = .ok (.iload_n 1, 1) := by decide +kernel
theorem dX5_apart_5 : decode cX5_apart 5 = .ok (.invokestatic 335, 3) := by decide +kernel
theorem dX5_apart_8 : decode cX5_apart 8 = .ok (.isub, 1) := by decide +kernel
theorem dX5_apart_9 : decode cX5_apart 9 = .ok (.invokestatic 338, 3) := by decide +kernel
theorem dX5_apart_12 : decode cX5_apart 12 = .ok (.iload_n 0, 1) := by decide +kernel
theorem dX5_apart_13 : decode cX5_apart 13 = .ok (.invokestatic 341, 3) := by decide +kernel
theorem dX5_apart_16 : decode cX5_apart 16 = .ok (.iload_n 1, 1) := by decide +kernel
theorem dX5_apart_17 : decode cX5_apart 17 = .ok (.invokestatic 341, 3) := by decide +kernel
theorem dX5_apart_20 : decode cX5_apart 20 = .ok (.isub, 1) := by decide +kernel
theorem dX5_apart_21 : decode cX5_apart 21 = .ok (.invokestatic 338, 3) := by decide +kernel
theorem dX5_apart_24 : decode cX5_apart 24 = .ok (.iadd, 1) := by decide +kernel
theorem dX5_apart_25 : decode cX5_apart 25 = .ok (.ireturn, 1) := by decide +kernel
theorem dX5_nextHouse_0 : decode cX5_nextHouse 0 = .ok (.iload_n 1, 1) := by decide +kernel
theorem dX5_nextHouse_1 : decode cX5_nextHouse 1 = .ok (.tableswitch 93 0 3 #[31, 47, 63, 78], 31) := by decide +kernel
theorem dX5_nextHouse_32 : decode cX5_nextHouse 32 = .ok (.iload_n 0, 1) := by decide +kernel
theorem dX5_nextHouse_33 : decode cX5_nextHouse 33 = .ok (.invokestatic 335, 3) := by decide +kernel
theorem dX5_nextHouse_36 : decode cX5_nextHouse 36 = .ok (.iconst 3, 1) := by decide +kernel
theorem dX5_nextHouse_37 : decode cX5_nextHouse 37 = .ok (.if_icmp .ge 9, 3) := by decide +kernel
theorem dX5_nextHouse_40 : decode cX5_nextHouse 40 = .ok (.iload_n 0, 1) := by decide +kernel
theorem dX5_nextHouse_41 : decode cX5_nextHouse 41 = .ok (.iconst 1, 1) := by decide +kernel
theorem dX5_nextHouse_42 : decode cX5_nextHouse 42 = .ok (.iadd, 1) := by decide +kernel
theorem dX5_nextHouse_43 : decode cX5_nextHouse 43 = .ok (.goto 4, 3) := by decide +kernel
theorem dX5_nextHouse_46 : decode cX5_nextHouse 46 = .ok (.iload_n 0, 1) := by decide +kernel
theorem dX5_nextHouse_47 : decode cX5_nextHouse 47 = .ok (.ireturn, 1) := by decide +kernel
theorem dX5_nextHouse_48 : decode cX5_nextHouse 48 = .ok (.iload_n 0, 1) := by decide +kernel
theorem dX5_nextHouse_49 : decode cX5_nextHouse 49 = .ok (.invokestatic 341, 3) := by decide +kernel
theorem dX5_nextHouse_52 : decode cX5_nextHouse 52 = .ok (.iconst 3, 1) := by decide +kernel
theorem dX5_nextHouse_53 : decode cX5_nextHouse 53 = .ok (.if_icmp .ge 9, 3) := by decide +kernel
theorem dX5_nextHouse_56 : decode cX5_nextHouse 56 = .ok (.iload_n 0, 1) := by decide +kernel
theorem dX5_nextHouse_57 : decode cX5_nextHouse 57 = .ok (.iconst 4, 1) := by decide +kernel
theorem dX5_nextHouse_58 : decode cX5_nextHouse 58 = .ok (.iadd, 1) := by decide +kernel
theorem dX5_nextHouse_59 : decode cX5_nextHouse 59 = .ok (.goto 4, 3) := by decide +kernel
theorem dX5_nextHouse_62 : decode cX5_nextHouse 62 = .ok (.iload_n 0, 1) := by decide +kernel
theorem dX5_nextHouse_63 : decode cX5_nextHouse 63 = .ok (.ireturn, 1) := by decide +kernel
theorem dX5_nextHouse_64 : decode cX5_nextHouse 64 = .ok (.iload_n 0, 1) := by decide +kernel
theorem dX5_nextHouse_65 : decode cX5_nextHouse 65 = .ok (.invokestatic 335, 3) := by decide +kernel
theorem dX5_nextHouse_68 : decode cX5_nextHouse 68 = .ok (.ifCond .le 9, 3) := by decide +kernel
theorem dX5_nextHouse_71 : decode cX5_nextHouse 71 = .ok (.iload_n 0, 1) := by decide +kernel
theorem dX5_nextHouse_72 : decode cX5_nextHouse 72 = .ok (.iconst 1, 1) := by decide +kernel
theorem dX5_nextHouse_73 : decode cX5_nextHouse 73 = .ok (.isub, 1) := by decide +kernel
theorem dX5_nextHouse_74 : decode cX5_nextHouse 74 = .ok (.goto 4, 3) := by decide +kernel
theorem dX5_nextHouse_77 : decode cX5_nextHouse 77 = .ok (.iload_n 0, 1) := by decide +kernel
theorem dX5_nextHouse_78 : decode cX5_nextHouse 78 = .ok (.ireturn, 1) := by decide +kernel
theorem dX5_nextHouse_79 : decode cX5_nextHouse 79 = .ok (.iload_n 0, 1) := by decide +kernel
theorem dX5_nextHouse_80 : decode cX5_nextHouse 80 = .ok (.invokestatic 341, 3) := by decide +kernel
theorem dX5_nextHouse_83 : decode cX5_nextHouse 83 = .ok (.ifCond .le 9, 3) := by decide +kernel
theorem dX5_nextHouse_86 : decode cX5_nextHouse 86 = .ok (.iload_n 0, 1) := by decide +kernel
theorem dX5_nextHouse_87 : decode cX5_nextHouse 87 = .ok (.iconst 4, 1) := by decide +kernel
theorem dX5_nextHouse_88 : decode cX5_nextHouse 88 = .ok (.isub, 1) := by decide +kernel
theorem dX5_nextHouse_89 : decode cX5_nextHouse 89 = .ok (.goto 4, 3) := by decide +kernel
theorem dX5_nextHouse_92 : decode cX5_nextHouse 92 = .ok (.iload_n 0, 1) := by decide +kernel
theorem dX5_nextHouse_93 : decode cX5_nextHouse 93 = .ok (.ireturn, 1) := by decide +kernel
theorem dX5_nextHouse_94 : decode cX5_nextHouse 94 = .ok (.iload_n 0, 1) := by decide +kernel
theorem dX5_nextHouse_95 : decode cX5_nextHouse 95 = .ok (.ireturn, 1) := by decide +kernel
theorem dX5_wayTowards_0 : decode cX5_wayTowards 0 = .ok (.iload_n 0, 1) := by decide +kernel
theorem dX5_wayTowards_1 : decode cX5_wayTowards 1 = .ok (.invokestatic 335, 3) := by decide +kernel
theorem dX5_wayTowards_4 : decode cX5_wayTowards 4 = .ok (.iload_n 1, 1) := by decide +kernel
theorem dX5_wayTowards_5 : decode cX5_wayTowards 5 = .ok (.invokestatic 335, 3) := by decide +kernel
theorem dX5_wayTowards_8 : decode cX5_wayTowards 8 = .ok (.if_icmp .eq 20, 3) := by decide +kernel
theorem dX5_wayTowards_11 : decode cX5_wayTowards 11 = .ok (.iload_n 0, 1) := by decide +kernel
theorem dX5_wayTowards_12 : decode cX5_wayTowards 12 = .ok (.invokestatic 335, 3) := by decide +kernel
theorem dX5_wayTowards_15 : decode cX5_wayTowards 15 = .ok (.iload_n 1, 1) := by decide +kernel
theorem dX5_wayTowards_16 : decode cX5_wayTowards 16 = .ok (.invokestatic 335, 3) := by decide +kernel
theorem dX5_wayTowards_19 : decode cX5_wayTowards 19 = .ok (.if_icmp .ge 7, 3) := by decide +kernel
theorem dX5_wayTowards_22 : decode cX5_wayTowards 22 = .ok (.iconst 0, 1) := by decide +kernel
theorem dX5_wayTowards_23 : decode cX5_wayTowards 23 = .ok (.goto 4, 3) := by decide +kernel
theorem dX5_wayTowards_26 : decode cX5_wayTowards 26 = .ok (.iconst 2, 1) := by decide +kernel
theorem dX5_wayTowards_27 : decode cX5_wayTowards 27 = .ok (.ireturn, 1) := by decide +kernel
theorem dX5_wayTowards_28 : decode cX5_wayTowards 28 = .ok (.iload_n 0, 1) := by decide +kernel
theorem dX5_wayTowards_29 : decode cX5_wayTowards 29 = .ok (.invokestatic 341, 3) := by decide +kernel
theorem dX5_wayTowards_32 : decode cX5_wayTowards 32 = .ok (.iload_n 1, 1) := by decide +kernel
theorem dX5_wayTowards_33 : decode cX5_wayTowards 33 = .ok (.invokestatic 341, 3) := by decide +kernel
theorem dX5_wayTowards_36 : decode cX5_wayTowards 36 = .ok (.if_icmp .eq 20, 3) := by decide +kernel
theorem dX5_wayTowards_39 : decode cX5_wayTowards 39 = .ok (.iload_n 0, 1) := by decide +kernel
theorem dX5_wayTowards_40 : decode cX5_wayTowards 40 = .ok (.invokestatic 341, 3) := by decide +kernel
theorem dX5_wayTowards_43 : decode cX5_wayTowards 43 = .ok (.iload_n 1, 1) := by decide +kernel
theorem dX5_wayTowards_44 : decode cX5_wayTowards 44 = .ok (.invokestatic 341, 3) := by decide +kernel
theorem dX5_wayTowards_47 : decode cX5_wayTowards 47 = .ok (.if_icmp .ge 7, 3) := by decide +kernel
theorem dX5_wayTowards_50 : decode cX5_wayTowards 50 = .ok (.iconst 1, 1) := by decide +kernel
theorem dX5_wayTowards_51 : decode cX5_wayTowards 51 = .ok (.goto 4, 3) := by decide +kernel
theorem dX5_wayTowards_54 : decode cX5_wayTowards 54 = .ok (.iconst 3, 1) := by decide +kernel
theorem dX5_wayTowards_55 : decode cX5_wayTowards 55 = .ok (.ireturn, 1) := by decide +kernel
theorem dX5_wayTowards_56 : decode cX5_wayTowards 56 = .ok (.iconst 4, 1) := by decide +kernel
theorem dX5_wayTowards_57 : decode cX5_wayTowards 57 = .ok (.ireturn, 1) := by decide +kernel
theorem dX5_withNext_0 : decode cX5_withNext 0 = .ok (.iload_n 0, 1) := by decide +kernel
theorem dX5_withNext_1 : decode cX5_withNext 1 = .ok (.ldc_w 344, 3) := by decide +kernel
theorem dX5_withNext_4 : decode cX5_withNext 4 = .ok (.iand, 1) := by decide +kernel
theorem dX5_withNext_5 : decode cX5_withNext 5 = .ok (.iconst 1, 1) := by decide +kernel
theorem dX5_withNext_6 : decode cX5_withNext 6 = .ok (.ishl, 1) := by decide +kernel
theorem dX5_withNext_7 : decode cX5_withNext 7 = .ok (.istore_n 1, 1) := by decide +kernel
theorem dX5_withNext_8 : decode cX5_withNext 8 = .ok (.iload_n 0, 1) := by decide +kernel
theorem dX5_withNext_9 : decode cX5_withNext 9 = .ok (.sipush (-4370), 3) := by decide +kernel
theorem dX5_withNext_12 : decode cX5_withNext 12 = .ok (.iand, 1) := by decide +kernel
theorem dX5_withNext_13 : decode cX5_withNext 13 = .ok (.iconst 1, 1) := by decide +kernel
theorem dX5_withNext_14 : decode cX5_withNext 14 = .ok (.iushr, 1) := by decide +kernel
theorem dX5_withNext_15 : decode cX5_withNext 15 = .ok (.istore_n 2, 1) := by decide +kernel
theorem dX5_withNext_16 : decode cX5_withNext 16 = .ok (.iload_n 0, 1) := by decide +kernel
theorem dX5_withNext_17 : decode cX5_withNext 17 = .ok (.iload_n 1, 1) := by decide +kernel
theorem dX5_withNext_18 : decode cX5_withNext 18 = .ok (.ior, 1) := by decide +kernel
theorem dX5_withNext_19 : decode cX5_withNext 19 = .ok (.iload_n 2, 1) := by decide +kernel
theorem dX5_withNext_20 : decode cX5_withNext 20 = .ok (.ior, 1) := by decide +kernel
theorem dX5_withNext_21 : decode cX5_withNext 21 = .ok (.iload_n 0, 1) := by decide +kernel
theorem dX5_withNext_22 : decode cX5_withNext 22 = .ok (.iconst 4, 1) := by decide +kernel
theorem dX5_withNext_23 : decode cX5_withNext 23 = .ok (.ishl, 1) := by decide +kernel
theorem dX5_withNext_24 : decode cX5_withNext 24 = .ok (.ior, 1) := by decide +kernel
theorem dX5_withNext_25 : decode cX5_withNext 25 = .ok (.iload_n 0, 1) := by decide +kernel
theorem dX5_withNext_26 : decode cX5_withNext 26 = .ok (.iconst 4, 1) := by decide +kernel
theorem dX5_withNext_27 : decode cX5_withNext 27 = .ok (.iushr, 1) := by decide +kernel
theorem dX5_withNext_28 : decode cX5_withNext 28 = .ok (.ior, 1) := by decide +kernel
theorem dX5_withNext_29 : decode cX5_withNext 29 = .ok (.ldc 219, 2) := by decide +kernel
theorem dX5_withNext_31 : decode cX5_withNext 31 = .ok (.iand, 1) := by decide +kernel
theorem dX5_withNext_32 : decode cX5_withNext 32 = .ok (.ireturn, 1) := by decide +kernel
theorem dX5_choices_0 : decode cX5_choices 0 = .ok (.lconst 1, 1) := by decide +kernel
theorem dX5_choices_1 : decode cX5_choices 1 = .ok (.lstore_n 2, 1) := by decide +kernel
theorem dX5_choices_2 : decode cX5_choices 2 = .ok (.iconst 1, 1) := by decide +kernel
theorem dX5_choices_3 : decode cX5_choices 3 = .ok (.istore 4, 2) := by decide +kernel
theorem dX5_choices_5 : decode cX5_choices 5 = .ok (.iload 4, 2) := by decide +kernel
theorem dX5_choices_7 : decode cX5_choices 7 = .ok (.iload_n 1, 1) := by decide +kernel
theorem dX5_choices_8 : decode cX5_choices 8 = .ok (.if_icmp .gt 23, 3) := by decide +kernel
theorem dX5_choices_11 : decode cX5_choices 11 = .ok (.lload_n 2, 1) := by decide +kernel
theorem dX5_choices_12 : decode cX5_choices 12 = .ok (.iload_n 0, 1) := by decide +kernel
theorem dX5_choices_13 : decode cX5_choices 13 = .ok (.iload_n 1, 1) := by decide +kernel
theorem dX5_choices_14 : decode cX5_choices 14 = .ok (.isub, 1) := by decide +kernel
theorem dX5_choices_15 : decode cX5_choices 15 = .ok (.iload 4, 2) := by decide +kernel
theorem dX5_choices_17 : decode cX5_choices 17 = .ok (.iadd, 1) := by decide +kernel
theorem dX5_choices_18 : decode cX5_choices 18 = .ok (.i2l, 1) := by decide +kernel
theorem dX5_choices_19 : decode cX5_choices 19 = .ok (.lmul, 1) := by decide +kernel
theorem dX5_choices_20 : decode cX5_choices 20 = .ok (.iload 4, 2) := by decide +kernel
theorem dX5_choices_22 : decode cX5_choices 22 = .ok (.i2l, 1) := by decide +kernel
theorem dX5_choices_23 : decode cX5_choices 23 = .ok (.ldiv, 1) := by decide +kernel
theorem dX5_choices_24 : decode cX5_choices 24 = .ok (.lstore_n 2, 1) := by decide +kernel
theorem dX5_choices_25 : decode cX5_choices 25 = .ok (.iinc 4 1, 3) := by decide +kernel
theorem dX5_choices_28 : decode cX5_choices 28 = .ok (.goto (-23), 3) := by decide +kernel
theorem dX5_choices_31 : decode cX5_choices 31 = .ok (.lload_n 2, 1) := by decide +kernel
theorem dX5_choices_32 : decode cX5_choices 32 = .ok (.lreturn, 1) := by decide +kernel
theorem dX5_power_0 : decode cX5_power 0 = .ok (.lconst 1, 1) := by decide +kernel
theorem dX5_power_1 : decode cX5_power 1 = .ok (.lstore_n 3, 1) := by decide +kernel
theorem dX5_power_2 : decode cX5_power 2 = .ok (.iconst 0, 1) := by decide +kernel
theorem dX5_power_3 : decode cX5_power 3 = .ok (.istore 5, 2) := by decide +kernel
theorem dX5_power_5 : decode cX5_power 5 = .ok (.iload 5, 2) := by decide +kernel
theorem dX5_power_7 : decode cX5_power 7 = .ok (.iload_n 2, 1) := by decide +kernel
theorem dX5_power_8 : decode cX5_power 8 = .ok (.if_icmp .ge 13, 3) := by decide +kernel
theorem dX5_power_11 : decode cX5_power 11 = .ok (.lload_n 3, 1) := by decide +kernel
theorem dX5_power_12 : decode cX5_power 12 = .ok (.lload_n 0, 1) := by decide +kernel
theorem dX5_power_13 : decode cX5_power 13 = .ok (.lmul, 1) := by decide +kernel
theorem dX5_power_14 : decode cX5_power 14 = .ok (.lstore_n 3, 1) := by decide +kernel
theorem dX5_power_15 : decode cX5_power 15 = .ok (.iinc 5 1, 3) := by decide +kernel
theorem dX5_power_18 : decode cX5_power 18 = .ok (.goto (-13), 3) := by decide +kernel
theorem dX5_power_21 : decode cX5_power 21 = .ok (.lload_n 3, 1) := by decide +kernel
theorem dX5_power_22 : decode cX5_power 22 = .ok (.lreturn, 1) := by decide +kernel
theorem dX5_partOf_0 : decode cX5_partOf 0 = .ok (.lconst 1, 1) := by decide +kernel
theorem dX5_partOf_1 : decode cX5_partOf 1 = .ok (.lload_n 0, 1) := by decide +kernel
theorem dX5_partOf_2 : decode cX5_partOf 2 = .ok (.lload_n 2, 1) := by decide +kernel
theorem dX5_partOf_3 : decode cX5_partOf 3 = .ok (.invokestatic 345, 3) := by decide +kernel
theorem dX5_partOf_6 : decode cX5_partOf 6 = .ok (.invokestatic 349, 3) := by decide +kernel
theorem dX5_partOf_9 : decode cX5_partOf 9 = .ok (.lstore 5, 2) := by decide +kernel
theorem dX5_partOf_11 : decode cX5_partOf 11 = .ok (.iload 4, 2) := by decide +kernel
theorem dX5_partOf_13 : decode cX5_partOf 13 = .ok (.ifCond .ne 7, 3) := by decide +kernel
theorem dX5_partOf_16 : decode cX5_partOf 16 = .ok (.lload_n 0, 1) := by decide +kernel
theorem dX5_partOf_17 : decode cX5_partOf 17 = .ok (.goto 4, 3) := by decide +kernel
theorem dX5_partOf_20 : decode cX5_partOf 20 = .ok (.lload_n 2, 1) := by decide +kernel
theorem dX5_partOf_21 : decode cX5_partOf 21 = .ok (.lload 5, 2) := by decide +kernel
theorem dX5_partOf_23 : decode cX5_partOf 23 = .ok (.ldiv, 1) := by decide +kernel
theorem dX5_partOf_24 : decode cX5_partOf 24 = .ok (.lreturn, 1) := by decide +kernel
theorem dX5_commonDivisor_0 : decode cX5_commonDivisor 0 = .ok (.lload_n 0, 1) := by decide +kernel
theorem dX5_commonDivisor_1 : decode cX5_commonDivisor 1 = .ok (.lstore 4, 2) := by decide +kernel
theorem dX5_commonDivisor_3 : decode cX5_commonDivisor 3 = .ok (.lload_n 2, 1) := by decide +kernel
theorem dX5_commonDivisor_4 : decode cX5_commonDivisor 4 = .ok (.lstore 6, 2) := by decide +kernel
theorem dX5_commonDivisor_6 : decode cX5_commonDivisor 6 = .ok (.iconst 0, 1) := by decide +kernel
theorem dX5_commonDivisor_7 : decode cX5_commonDivisor 7 = .ok (.istore 8, 2) := by decide +kernel
theorem dX5_commonDivisor_9 : decode cX5_commonDivisor 9 = .ok (.iload 8, 2) := by decide +kernel
theorem dX5_commonDivisor_11 : decode cX5_commonDivisor 11 = .ok (.sipush 1000, 3) := by decide +kernel
theorem dX5_commonDivisor_14 : decode cX5_commonDivisor 14 = .ok (.if_icmp .ge 31, 3) := by decide +kernel
theorem dX5_commonDivisor_17 : decode cX5_commonDivisor 17 = .ok (.lload 6, 2) := by decide +kernel
theorem dX5_commonDivisor_19 : decode cX5_commonDivisor 19 = .ok (.lconst 0, 1) := by decide +kernel
theorem dX5_commonDivisor_20 : decode cX5_commonDivisor 20 = .ok (.lcmp, 1) := by decide +kernel
theorem dX5_commonDivisor_21 : decode cX5_commonDivisor 21 = .ok (.ifCond .eq 24, 3) := by decide +kernel
theorem dX5_commonDivisor_24 : decode cX5_commonDivisor 24 = .ok (.lload 4, 2) := by decide +kernel
theorem dX5_commonDivisor_26 : decode cX5_commonDivisor 26 = .ok (.lload 6, 2) := by decide +kernel
theorem dX5_commonDivisor_28 : decode cX5_commonDivisor 28 = .ok (.lrem, 1) := by decide +kernel
theorem dX5_commonDivisor_29 : decode cX5_commonDivisor 29 = .ok (.lstore 9, 2) := by decide +kernel
theorem dX5_commonDivisor_31 : decode cX5_commonDivisor 31 = .ok (.lload 6, 2) := by decide +kernel
theorem dX5_commonDivisor_33 : decode cX5_commonDivisor 33 = .ok (.lstore 4, 2) := by decide +kernel
theorem dX5_commonDivisor_35 : decode cX5_commonDivisor 35 = .ok (.lload 9, 2) := by decide +kernel
theorem dX5_commonDivisor_37 : decode cX5_commonDivisor 37 = .ok (.lstore 6, 2) := by decide +kernel
theorem dX5_commonDivisor_39 : decode cX5_commonDivisor 39 = .ok (.iinc 8 1, 3) := by decide +kernel
theorem dX5_commonDivisor_42 : decode cX5_commonDivisor 42 = .ok (.goto (-33), 3) := by decide +kernel
theorem dX5_commonDivisor_45 : decode cX5_commonDivisor 45 = .ok (.lload 4, 2) := by decide +kernel
theorem dX5_commonDivisor_47 : decode cX5_commonDivisor 47 = .ok (.lreturn, 1) := by decide +kernel
end
section
theorem dX6_init_0 : decode cX6_init 0 = .ok (.aload_n 0, 1) := by decide +kernel
theorem dX6_init_1 : decode cX6_init 1 = .ok (.invokespecial 1, 3) := by decide +kernel
theorem dX6_init_4 : decode cX6_init 4 = .ok (.aload_n 0, 1) := by decide +kernel
theorem dX6_init_5 : decode cX6_init 5 = .ok (.bipush 56, 2) := by decide +kernel
theorem dX6_init_7 : decode cX6_init 7 = .ok (.newarray .int, 2) := by decide +kernel
theorem dX6_init_9 : decode cX6_init 9 = .ok (.putfield 7, 3) := by decide +kernel
theorem dX6_init_12 : decode cX6_init 12 = .ok (.aload_n 0, 1) := by decide +kernel
theorem dX6_init_13 : decode cX6_init 13 = .ok (.bipush 56, 2) := by decide +kernel
theorem dX6_init_15 : decode cX6_init 15 = .ok (.newarray .int, 2) := by decide +kernel
theorem dX6_init_17 : decode cX6_init 17 = .ok (.putfield 13, 3) := by decide +kernel
theorem dX6_init_20 : decode cX6_init 20 = .ok (.aload_n 0, 1) := by decide +kernel
theorem dX6_init_21 : decode cX6_init 21 = .ok (.bipush 56, 2) := by decide +kernel
theorem dX6_init_23 : decode cX6_init 23 = .ok (.newarray .int, 2) := by decide +kernel
theorem dX6_init_25 : decode cX6_init 25 = .ok (.putfield 16, 3) := by decide +kernel
theorem dX6_init_28 : decode cX6_init 28 = .ok (.aload_n 0, 1) := by decide +kernel
theorem dX6_init_29 : decode cX6_init 29 = .ok (.bipush 56, 2) := by decide +kernel
theorem dX6_init_31 : decode cX6_init 31 = .ok (.newarray .int, 2) := by decide +kernel
theorem dX6_init_33 : decode cX6_init 33 = .ok (.putfield 19, 3) := by decide +kernel
theorem dX6_init_36 : decode cX6_init 36 = .ok (.aload_n 0, 1) := by decide +kernel
theorem dX6_init_37 : decode cX6_init 37 = .ok (.sipush 200, 3) := by decide +kernel
theorem dX6_init_40 : decode cX6_init 40 = .ok (.newarray .int, 2) := by decide +kernel
theorem dX6_init_42 : decode cX6_init 42 = .ok (.putfield 22, 3) := by decide +kernel
theorem dX6_init_45 : decode cX6_init 45 = .ok (.aload_n 0, 1) := by decide +kernel
theorem dX6_init_46 : decode cX6_init 46 = .ok (.bipush 8, 2) := by decide +kernel
theorem dX6_init_48 : decode cX6_init 48 = .ok (.newarray .int, 2) := by decide +kernel
theorem dX6_init_50 : decode cX6_init 50 = .ok (.putfield 25, 3) := by decide +kernel
theorem dX6_init_53 : decode cX6_init 53 = .ok (.aload_n 0, 1) := by decide +kernel
theorem dX6_init_54 : decode cX6_init 54 = .ok (.bipush 61, 2) := by decide +kernel
theorem dX6_init_56 : decode cX6_init 56 = .ok (.newarray .int, 2) := by decide +kernel
theorem dX6_init_58 : decode cX6_init 58 = .ok (.putfield 28, 3) := by decide +kernel
theorem dX6_init_61 : decode cX6_init 61 = .ok (.aload_n 0, 1) := by decide +kernel
theorem dX6_init_62 : decode cX6_init 62 = .ok (.bipush 16, 2) := by decide +kernel
theorem dX6_init_64 : decode cX6_init 64 = .ok (.newarray .int, 2) := by decide +kernel
theorem dX6_init_66 : decode cX6_init 66 = .ok (.putfield 31, 3) := by decide +kernel
theorem dX6_init_69 : decode cX6_init 69 = .ok (.aload_n 0, 1) := by decide +kernel
theorem dX6_init_70 : decode cX6_init 70 = .ok (.sipush 256, 3) := by decide +kernel
theorem dX6_init_73 : decode cX6_init 73 = .ok (.newarray .int, 2) := by decide +kernel
theorem dX6_init_75 : decode cX6_init 75 = .ok (.putfield 34, 3) := by decide +kernel
theorem dX6_init_78 : decode cX6_init 78 = .ok (.aload_n 0, 1) := by decide +kernel
theorem dX6_init_79 : decode cX6_init 79 = .ok (.bipush 30, 2) := by decide +kernel
theorem dX6_init_81 : decode cX6_init 81 = .ok (.newarray .int, 2) := by decide +kernel
theorem dX6_init_83 : decode cX6_init 83 = .ok (.putfield 37, 3) := by decide +kernel
theorem dX6_init_86 : decode cX6_init 86 = .ok (.aload_n 0, 1) := by decide +kernel
theorem dX6_init_87 : decode cX6_init 87 = .ok (.iconst 4, 1) := by decide +kernel
theorem dX6_init_88 : decode cX6_init 88 = .ok (.newarray .int, 2) := by decide +kernel
theorem dX6_init_90 : decode cX6_init 90 = .ok (.dup, 1) := by decide +kernel
theorem dX6_init_91 : decode cX6_init 91 = .ok (.iconst 0, 1) := by decide +kernel
theorem dX6_init_92 : decode cX6_init 92 = .ok (.iconst (-1), 1) := by decide +kernel
theorem dX6_init_93 : decode cX6_init 93 = .ok (.iastore, 1) := by decide +kernel
theorem dX6_init_94 : decode cX6_init 94 = .ok (.dup, 1) := by decide +kernel
theorem dX6_init_95 : decode cX6_init 95 = .ok (.iconst 1, 1) := by decide +kernel
theorem dX6_init_96 : decode cX6_init 96 = .ok (.iconst (-1), 1) := by decide +kernel
theorem dX6_init_97 : decode cX6_init 97 = .ok (.iastore, 1) := by decide +kernel
theorem dX6_init_98 : decode cX6_init 98 = .ok (.dup, 1) := by decide +kernel
theorem dX6_init_99 : decode cX6_init 99 = .ok (.iconst 2, 1) := by decide +kernel
theorem dX6_init_100 : decode cX6_init 100 = .ok (.iconst (-1), 1) := by decide +kernel
theorem dX6_init_101 : decode cX6_init 101 = .ok (.iastore, 1) := by decide +kernel
theorem dX6_init_102 : decode cX6_init 102 = .ok (.dup, 1) := by decide +kernel
theorem dX6_init_103 : decode cX6_init 103 = .ok (.iconst 3, 1) := by decide +kernel
theorem dX6_init_104 : decode cX6_init 104 = .ok (.iconst (-1), 1) := by decide +kernel
theorem dX6_init_105 : decode cX6_init 105 = .ok (.iastore, 1) := by decide +kernel
theorem dX6_init_106 : decode cX6_init 106 = .ok (.putfield 40, 3) := by decide +kernel
theorem dX6_init_109 : decode cX6_init 109 = .ok (.aload_n 0, 1) := by decide +kernel
theorem dX6_init_110 : decode cX6_init 110 = .ok (.iconst 4, 1) := by decide +kernel
theorem dX6_init_111 : decode cX6_init 111 = .ok (.newarray .int, 2) := by decide +kernel
theorem dX6_init_113 : decode cX6_init 113 = .ok (.putfield 43, 3) := by decide +kernel
theorem dX6_init_116 : decode cX6_init 116 = .ok (.aload_n 0, 1) := by decide +kernel
theorem dX6_init_117 : decode cX6_init 117 = .ok (.sipush 160, 3) := by decide +kernel
theorem dX6_init_120 : decode cX6_init 120 = .ok (.newarray .int, 2) := by decide +kernel
theorem dX6_init_122 : decode cX6_init 122 = .ok (.putfield 46, 3) := by decide +kernel
theorem dX6_init_125 : decode cX6_init 125 = .ok (.aload_n 0, 1) := by decide +kernel
theorem dX6_init_126 : decode cX6_init 126 = .ok (.iconst 4, 1) := by decide +kernel
theorem dX6_init_127 : decode cX6_init 127 = .ok (.newarray .int, 2) := by decide +kernel
theorem dX6_init_129 : decode cX6_init 129 = .ok (.putfield 49, 3) := by decide +kernel
theorem dX6_init_132 : decode cX6_init 132 = .ok (.aload_n 0, 1) := by decide +kernel
theorem dX6_init_133 : decode cX6_init 133 = .ok (.iconst 4, 1) := by decide +kernel
theorem dX6_init_134 : decode cX6_init 134 = .ok (.newarray .int, 2) := by decide +kernel
theorem dX6_init_136 : decode cX6_init 136 = .ok (.putfield 52, 3) := by decide +kernel
theorem dX6_init_139 : decode cX6_init 139 = .ok (.aload_n 0, 1) := by decide +kernel
theorem dX6_init_140 : decode cX6_init 140 = .ok (.iconst 4, 1) := by decide +kernel
theorem dX6_init_141 : decode cX6_init 141 = .ok (.newarray .int, 2) := by decide +kernel
theorem dX6_init_143 : decode cX6_init 143 = .ok (.putfield 55, 3) := by decide +kernel
theorem dX6_init_146 : decode cX6_init 146 = .ok (.aload_n 0, 1) := by decide +kernel
theorem dX6_init_147 : decode cX6_init 147 = .ok (.bipush 30, 2) := by decide +kernel
theorem dX6_init_149 : decode cX6_init 149 = .ok (.newarray .int, 2) := by decide +kernel
theorem dX6_init_151 : decode cX6_init 151 = .ok (.putfield 58, 3) := by decide +kernel
theorem dX6_init_154 : decode cX6_init 154 = .ok (.aload_n 0, 1) := by decide +kernel
theorem dX6_init_155 : decode cX6_init 155 = .ok (.invokevirtual 61, 3) := by decide +kernel
theorem dX6_init_158 : decode cX6_init 158 = .ok (.aload_n 0, 1) := by decide +kernel
theorem dX6_init_159 : decode cX6_init 159 = .ok (.getfield 7, 3) := by decide +kernel
theorem dX6_init_162 : decode cX6_init 162 = .ok (.iconst 2, 1) := by decide +kernel
theorem dX6_init_163 : decode cX6_init 163 = .ok (.iconst 1, 1) := by decide +kernel
theorem dX6_init_164 : decode cX6_init 164 = .ok (.iastore, 1) := by decide +kernel
theorem dX6_init_165 : decode cX6_init 165 = .ok (.return_, 1) := by decide +kernel
theorem dX6_begins_0 : decode cX6_begins 0 = .ok (.aload_n 0, 1) := by decide +kernel
theorem dX6_begins_1 : decode cX6_begins 1 = .ok (.getfield 7, 3) := by decide +kernel
theorem dX6_begins_4 : decode cX6_begins 4 = .ok (.iconst 2, 1) := by decide +kernel
theorem dX6_begins_5 : decode cX6_begins 5 = .ok (.iaload, 1) := by decide +kernel
theorem dX6_begins_6 : decode cX6_begins 6 = .ok (.istore_n 1, 1) := by decide +kernel
theorem dX6_begins_7 : decode cX6_begins 7 = .ok (.iconst 0, 1) := by decide +kernel
theorem dX6_begins_8 : decode cX6_begins 8 = .ok (.istore_n 2, 1) := by decide +kernel
theorem dX6_begins_9 : decode cX6_begins 9 = .ok (.iload_n 2, 1) := by decide +kernel
theorem dX6_begins_10 : decode cX6_begins 10 = .ok (.bipush 56, 2) := by decide +kernel
theorem dX6_begins_12 : decode cX6_begins 12 = .ok (.if_icmp .ge 16, 3) := by decide +kernel
theorem dX6_begins_15 : decode cX6_begins 15 = .ok (.aload_n 0, 1) := by decide +kernel
theorem dX6_begins_16 : decode cX6_begins 16 = .ok (.getfield 7, 3) := by decide +kernel
theorem dX6_begins_19 : decode cX6_begins 19 = .ok (.iload_n 2, 1) := by decide +kernel
theorem dX6_begins_20 : decode cX6_begins 20 = .ok (.iconst 0, 1) := by decide +kernel
theorem dX6_begins_21 : decode cX6_begins 21 = .ok (.iastore, 1) := by decide +kernel
theorem dX6_begins_22 : decode cX6_begins 22 = .ok (.iinc 2 1, 3) := by decide +kernel
theorem dX6_begins_25 : decode cX6_begins 25 = .ok (.goto (-16), 3) := by decide +kernel
theorem dX6_begins_28 : decode cX6_begins 28 = .ok (.aload_n 0, 1) := by decide +kernel
theorem dX6_begins_29 : decode cX6_begins 29 = .ok (.getfield 7, 3) := by decide +kernel
theorem dX6_begins_32 : decode cX6_begins 32 = .ok (.iconst 2, 1) := by decide +kernel
theorem dX6_begins_33 : decode cX6_begins 33 = .ok (.iload_n 1, 1) := by decide +kernel
theorem dX6_begins_34 : decode cX6_begins 34 = .ok (.iastore, 1) := by decide +kernel
theorem dX6_begins_35 : decode cX6_begins 35 = .ok (.aload_n 0, 1) := by decide +kernel
theorem dX6_begins_36 : decode cX6_begins 36 = .ok (.getfield 7, 3) := by decide +kernel
theorem dX6_begins_39 : decode cX6_begins 39 = .ok (.iconst 4, 1) := by decide +kernel
theorem dX6_begins_40 : decode cX6_begins 40 = .ok (.iconst 3, 1) := by decide +kernel
theorem dX6_begins_41 : decode cX6_begins 41 = .ok (.iastore, 1) := by decide +kernel
theorem dX6_begins_42 : decode cX6_begins 42 = .ok (.aload_n 0, 1) := by decide +kernel
theorem dX6_begins_43 : decode cX6_begins 43 = .ok (.getfield 7, 3) := by decide +kernel
theorem dX6_begins_46 : decode cX6_begins 46 = .ok (.iconst 5, 1) := by decide +kernel
theorem dX6_begins_47 : decode cX6_begins 47 = .ok (.bipush 6, 2) := by decide +kernel
theorem dX6_begins_49 : decode cX6_begins 49 = .ok (.iastore, 1) := by decide +kernel
theorem dX6_begins_50 : decode cX6_begins 50 = .ok (.aload_n 0, 1) := by decide +kernel
theorem dX6_begins_51 : decode cX6_begins 51 = .ok (.getfield 7, 3) := by decide +kernel
theorem dX6_begins_54 : decode cX6_begins 54 = .ok (.bipush 6, 2) := by decide +kernel
theorem dX6_begins_56 : decode cX6_begins 56 = .ok (.iconst 2, 1) := by decide +kernel
theorem dX6_begins_57 : decode cX6_begins 57 = .ok (.iastore, 1) := by decide +kernel
theorem dX6_begins_58 : decode cX6_begins 58 = .ok (.aload_n 0, 1) := by decide +kernel
theorem dX6_begins_59 : decode cX6_begins 59 = .ok (.getfield 7, 3) := by decide +kernel
theorem dX6_begins_62 : decode cX6_begins 62 = .ok (.bipush 7, 2) := by decide +kernel
theorem dX6_begins_64 : decode cX6_begins 64 = .ok (.bipush 20, 2) := by decide +kernel
theorem dX6_begins_66 : decode cX6_begins 66 = .ok (.iastore, 1) := by decide +kernel
theorem dX6_begins_67 : decode cX6_begins 67 = .ok (.return_, 1) := by decide +kernel
theorem dX6_isIn_0 : decode cX6_isIn 0 = .ok (.lload_n 0, 1) := by decide +kernel
theorem dX6_isIn_1 : decode cX6_isIn 1 = .ok (.lload_n 2, 1) := by decide +kernel
theorem dX6_isIn_2 : decode cX6_isIn 2 = .ok (.lcmp, 1) := by decide +kernel
theorem dX6_isIn_3 : decode cX6_isIn 3 = .ok (.ifCond .lt 14, 3) := by decide +kernel
theorem dX6_isIn_6 : decode cX6_isIn 6 = .ok (.lload_n 0, 1) := by decide +kernel
theorem dX6_isIn_7 : decode cX6_isIn 7 = .ok (.lload 4, 2) := by decide +kernel
theorem dX6_isIn_9 : decode cX6_isIn 9 = .ok (.lcmp, 1) := by decide +kernel
theorem dX6_isIn_10 : decode cX6_isIn 10 = .ok (.ifCond .gt 7, 3) := by decide +kernel
theorem dX6_isIn_13 : decode cX6_isIn 13 = .ok (.iconst 1, 1) := by decide +kernel
theorem dX6_isIn_14 : decode cX6_isIn 14 = .ok (.goto 4, 3) := by decide +kernel
theorem dX6_isIn_17 : decode cX6_isIn 17 = .ok (.iconst 0, 1) := by decide +kernel
theorem dX6_isIn_18 : decode cX6_isIn 18 = .ok (.ireturn, 1) := by decide +kernel
theorem dX6_isHouse_0 : decode cX6_isHouse 0 = .ok (.iload_n 0, 1) := by decide +kernel
theorem dX6_isHouse_1 : decode cX6_isHouse 1 = .ok (.ifCond .lt 13, 3) := by decide +kernel
theorem dX6_isHouse_4 : decode cX6_isHouse 4 = .ok (.iload_n 0, 1) := by decide +kernel
theorem dX6_isHouse_5 : decode cX6_isHouse 5 = .ok (.bipush 16, 2) := by decide +kernel
theorem dX6_isHouse_7 : decode cX6_isHouse 7 = .ok (.if_icmp .ge 7, 3) := by decide +kernel
theorem dX6_isHouse_10 : decode cX6_isHouse 10 = .ok (.iconst 1, 1) := by decide +kernel
theorem dX6_isHouse_11 : decode cX6_isHouse 11 = .ok (.goto 4, 3) := by decide +kernel
theorem dX6_isHouse_14 : decode cX6_isHouse 14 = .ok (.iconst 0, 1) := by decide +kernel
theorem dX6_isHouse_15 : decode cX6_isHouse 15 = .ok (.ireturn, 1) := by decide +kernel
theorem dX6_isOne_0 : decode cX6_isOne 0 = .ok (.iload_n 1, 1) := by decide +kernel
theorem dX6_isOne_1 : decode cX6_isOne 1 = .ok (.ifCond .lt 17, 3) := by decide +kernel
theorem dX6_isOne_4 : decode cX6_isOne 4 = .ok (.iload_n 1, 1) := by decide +kernel
theorem dX6_isOne_5 : decode cX6_isOne 5 = .ok (.aload_n 0, 1) := by decide +kernel
theorem dX6_isOne_6 : decode cX6_isOne 6 = .ok (.getfield 7, 3) := by decide +kernel
theorem dX6_isOne_9 : decode cX6_isOne 9 = .ok (.iconst 0, 1) := by decide +kernel
theorem dX6_isOne_10 : decode cX6_isOne 10 = .ok (.iaload, 1) := by decide +kernel
theorem dX6_isOne_11 : decode cX6_isOne 11 = .ok (.if_icmp .ge 7, 3) := by decide +kernel
theorem dX6_isOne_14 : decode cX6_isOne 14 = .ok (.iconst 1, 1) := by decide +kernel
theorem dX6_isOne_15 : decode cX6_isOne 15 = .ok (.goto 4, 3) := by decide +kernel
theorem dX6_isOne_18 : decode cX6_isOne 18 = .ok (.iconst 0, 1) := by decide +kernel
theorem dX6_isOne_19 : decode cX6_isOne 19 = .ok (.ireturn, 1) := by decide +kernel
theorem dX6_its_0 : decode cX6_its 0 = .ok (.aload_n 0, 1) := by decide +kernel
theorem dX6_its_1 : decode cX6_its 1 = .ok (.getfield 7, 3) := by decide +kernel
theorem dX6_its_4 : decode cX6_its 4 = .ok (.bipush 24, 2) := by decide +kernel
theorem dX6_its_6 : decode cX6_its 6 = .ok (.iconst 4, 1) := by decide +kernel
theorem dX6_its_7 : decode cX6_its 7 = .ok (.iload_n 1, 1) := by decide +kernel
theorem dX6_its_8 : decode cX6_its 8 = .ok (.imul, 1) := by decide +kernel
theorem dX6_its_9 : decode cX6_its 9 = .ok (.iadd, 1) := by decide +kernel
theorem dX6_its_10 : decode cX6_its 10 = .ok (.iload_n 2, 1) := by decide +kernel
theorem dX6_its_11 : decode cX6_its 11 = .ok (.iadd, 1) := by decide +kernel
theorem dX6_its_12 : decode cX6_its 12 = .ok (.iaload, 1) := by decide +kernel
theorem dX6_its_13 : decode cX6_its 13 = .ok (.ireturn, 1) := by decide +kernel
theorem dX6_becomes_0 : decode cX6_becomes 0 = .ok (.aload_n 0, 1) := by decide +kernel
theorem dX6_becomes_1 : decode cX6_becomes 1 = .ok (.getfield 7, 3) := by decide +kernel
theorem dX6_becomes_4 : decode cX6_becomes 4 = .ok (.iload_n 1, 1) := by decide +kernel
theorem dX6_becomes_5 : decode cX6_becomes 5 = .ok (.iaload, 1) := by decide +kernel
theorem dX6_becomes_6 : decode cX6_becomes 6 = .ok (.istore_n 3, 1) := by decide +kernel
theorem dX6_becomes_7 : decode cX6_becomes 7 = .ok (.aload_n 0, 1) := by decide +kernel
theorem dX6_becomes_8 : decode cX6_becomes 8 = .ok (.getfield 7, 3) := by decide +kernel
theorem dX6_becomes_11 : decode cX6_becomes 11 = .ok (.iload_n 1, 1) := by decide +kernel
theorem dX6_becomes_12 : decode cX6_becomes 12 = .ok (.iload_n 2, 1) := by decide +kernel
theorem dX6_becomes_13 : decode cX6_becomes 13 = .ok (.iastore, 1) := by decide +kernel
theorem dX6_becomes_14 : decode cX6_becomes 14 = .ok (.iload_n 3, 1) := by decide +kernel
theorem dX6_becomes_15 : decode cX6_becomes 15 = .ok (.ireturn, 1) := by decide +kernel
theorem dX6_copyRow_0 : decode cX6_copyRow 0 = .ok (.iconst 0, 1) := by decide +kernel
theorem dX6_copyRow_1 : decode cX6_copyRow 1 = .ok (.istore_n 2, 1) := by decide +kernel
theorem dX6_copyRow_2 : decode cX6_copyRow 2 = .ok (.iload_n 2, 1) := by decide +kernel
theorem dX6_copyRow_3 : decode cX6_copyRow 3 = .ok (.bipush 56, 2) := by decide +kernel
theorem dX6_copyRow_5 : decode cX6_copyRow 5 = .ok (.if_icmp .ge 15, 3) := by decide +kernel
theorem dX6_copyRow_8 : decode cX6_copyRow 8 = .ok (.aload_n 1, 1) := by decide +kernel
theorem dX6_copyRow_9 : decode cX6_copyRow 9 = .ok (.iload_n 2, 1) := by decide +kernel
theorem dX6_copyRow_10 : decode cX6_copyRow 10 = .ok (.aload_n 0, 1) := by decide +kernel
theorem dX6_copyRow_11 : decode cX6_copyRow 11 = .ok (.iload_n 2, 1) := by decide +kernel
theorem dX6_copyRow_12 : decode cX6_copyRow 12 = .ok (.iaload, 1) := by decide +kernel
theorem dX6_copyRow_13 : decode cX6_copyRow 13 = .ok (.iastore, 1) := by decide +kernel
theorem dX6_copyRow_14 : decode cX6_copyRow 14 = .ok (.iinc 2 1, 3) := by decide +kernel
theorem dX6_copyRow_17 : decode cX6_copyRow 17 = .ok (.goto (-15), 3) := by decide +kernel
theorem dX6_copyRow_20 : decode cX6_copyRow 20 = .ok (.return_, 1) := by decide +kernel
theorem dX6_least_0 : decode cX6_least 0 = .ok (.iload_n 0, 1) := by decide +kernel
theorem dX6_least_1 : decode cX6_least 1 = .ok (.iload_n 1, 1) := by decide +kernel
theorem dX6_least_2 : decode cX6_least 2 = .ok (.if_icmp .ge 7, 3) := by decide +kernel
theorem dX6_least_5 : decode cX6_least 5 = .ok (.iload_n 0, 1) := by decide +kernel
theorem dX6_least_6 : decode cX6_least 6 = .ok (.goto 4, 3) := by decide +kernel
theorem dX6_least_9 : decode cX6_least 9 = .ok (.iload_n 1, 1) := by decide +kernel
theorem dX6_least_10 : decode cX6_least 10 = .ok (.ireturn, 1) := by decide +kernel
theorem dX6_apart_0 : decode cX6_apart 0 = .ok (.iload_n 0, 1) := by decide +kernel
theorem dX6_apart_1 : decode cX6_apart 1 = .ok (.iload_n 1, 1) := by decide +kernel
theorem dX6_apart_2 : decode cX6_apart 2 = .ok (.if_icmp .ge 9, 3) := by decide +kernel
theorem dX6_apart_5 : decode cX6_apart 5 = .ok (.iload_n 1, 1) := by decide +kernel
theorem dX6_apart_6 : decode cX6_apart 6 = .ok (.iload_n 0, 1) := by decide +kernel
theorem dX6_apart_7 : decode cX6_apart 7 = .ok (.isub, 1) := by decide +kernel
theorem dX6_apart_8 : decode cX6_apart 8 = .ok (.goto 6, 3) := by decide +kernel
theorem dX6_apart_11 : decode cX6_apart 11 = .ok (.iload_n 0, 1) := by decide +kernel
theorem dX6_apart_12 : decode cX6_apart 12 = .ok (.iload_n 1, 1) := by decide +kernel
theorem dX6_apart_13 : decode cX6_apart 13 = .ok (.isub, 1) := by decide +kernel
theorem dX6_apart_14 : decode cX6_apart 14 = .ok (.ireturn, 1) := by decide +kernel
theorem dX6_bounded_0 : decode cX6_bounded 0 = .ok (.iload_n 0, 1) := by decide +kernel
theorem dX6_bounded_1 : decode cX6_bounded 1 = .ok (.ifCond .ge 7, 3) := by decide +kernel
theorem dX6_bounded_4 : decode cX6_bounded 4 = .ok (.iconst 0, 1) := by decide +kernel
theorem dX6_bounded_5 : decode cX6_bounded 5 = .ok (.goto 13, 3) := by decide +kernel
theorem dX6_bounded_8 : decode cX6_bounded 8 = .ok (.iload_n 0, 1) := by decide +kernel
theorem dX6_bounded_9 : decode cX6_bounded 9 = .ok (.iload_n 1, 1) := by decide +kernel
theorem dX6_bounded_10 : decode cX6_bounded 10 = .ok (.if_icmp .le 7, 3) := by decide +kernel
theorem dX6_bounded_13 : decode cX6_bounded 13 = .ok (.iload_n 1, 1) := by decide +kernel
theorem dX6_bounded_14 : decode cX6_bounded 14 = .ok (.goto 4, 3) := by decide +kernel
theorem dX6_bounded_17 : decode cX6_bounded 17 = .ok (.iload_n 0, 1) := by decide +kernel
theorem dX6_bounded_18 : decode cX6_bounded 18 = .ok (.ireturn, 1) := by decide +kernel
theorem dX6_within_0 : decode cX6_within 0 = .ok (.iload_n 0, 1) := by decide +kernel
theorem dX6_within_1 : decode cX6_within 1 = .ok (.bipush 9, 2) := by decide +kernel
theorem dX6_within_3 : decode cX6_within 3 = .ok (.invokestatic 64, 3) := by decide +kernel
theorem dX6_within_6 : decode cX6_within 6 = .ok (.ireturn, 1) := by decide +kernel
theorem dX6_size_0 : decode cX6_size 0 = .ok (.iconst 0, 1) := by decide +kernel
theorem dX6_size_1 : decode cX6_size 1 = .ok (.istore_n 1, 1) := by decide +kernel
theorem dX6_size_2 : decode cX6_size 2 = .ok (.iload_n 0, 1) := by decide +kernel
theorem dX6_size_3 : decode cX6_size 3 = .ok (.istore_n 2, 1) := by decide +kernel
theorem dX6_size_4 : decode cX6_size 4 = .ok (.iload_n 2, 1) := by decide +kernel
theorem dX6_size_5 : decode cX6_size 5 = .ok (.ifCond .eq 15, 3) := by decide +kernel
theorem dX6_size_8 : decode cX6_size 8 = .ok (.iinc 1 1, 3) := by decide +kernel
theorem dX6_size_11 : decode cX6_size 11 = .ok (.iload_n 2, 1) := by decide +kernel
theorem dX6_size_12 : decode cX6_size 12 = .ok (.iload_n 2, 1) := by decide +kernel
theorem dX6_size_13 : decode cX6_size 13 = .ok (.iconst 1, 1) := by decide +kernel
theorem dX6_size_14 : decode cX6_size 14 = .ok (.isub, 1) := by decide +kernel
theorem dX6_size_15 : decode cX6_size 15 = .ok (.iand, 1) := by decide +kernel
theorem dX6_size_16 : decode cX6_size 16 = .ok (.istore_n 2, 1) := by decide +kernel
theorem dX6_size_17 : decode cX6_size 17 = .ok (.goto (-13), 3) := by decide +kernel
theorem dX6_size_20 : decode cX6_size 20 = .ok (.iload_n 1, 1) := by decide +kernel
theorem dX6_size_21 : decode cX6_size 21 = .ok (.ireturn, 1) := by decide +kernel
theorem dX6_isUnder_0 : decode cX6_isUnder 0 = .ok (.iload_n 1, 1) := by decide +kernel
theorem dX6_isUnder_1 : decode cX6_isUnder 1 = .ok (.ifCond .eq 28, 3) := by decide +kernel
theorem dX6_isUnder_4 : decode cX6_isUnder 4 = .ok (.iload_n 0, 1) := by decide +kernel
theorem dX6_isUnder_5 : decode cX6_isUnder 5 = .ok (.iload_n 1, 1) := by decide +kernel
theorem dX6_isUnder_6 : decode cX6_isUnder 6 = .ok (.if_icmp .eq 23, 3) := by decide +kernel
theorem dX6_isUnder_9 : decode cX6_isUnder 9 = .ok (.iload_n 1, 1) := by decide +kernel
theorem dX6_isUnder_10 : decode cX6_isUnder 10 = .ok (.iconst 1, 1) := by decide +kernel
theorem dX6_isUnder_11 : decode cX6_isUnder 11 = .ok (.if_icmp .ne 8, 3) := by decide +kernel
theorem dX6_isUnder_14 : decode cX6_isUnder 14 = .ok (.iload_n 0, 1) := by decide +kernel
theorem dX6_isUnder_15 : decode cX6_isUnder 15 = .ok (.iconst 3, 1) := by decide +kernel
theorem dX6_isUnder_16 : decode cX6_isUnder 16 = .ok (.if_icmp .eq 13, 3) := by decide +kernel
theorem dX6_isUnder_19 : decode cX6_isUnder 19 = .ok (.iload_n 1, 1) := by decide +kernel
theorem dX6_isUnder_20 : decode cX6_isUnder 20 = .ok (.iconst 2, 1) := by decide +kernel
theorem dX6_isUnder_21 : decode cX6_isUnder 21 = .ok (.if_icmp .ne 12, 3) := by decide +kernel
theorem dX6_isUnder_24 : decode cX6_isUnder 24 = .ok (.iload_n 0, 1) := by decide +kernel
theorem dX6_isUnder_25 : decode cX6_isUnder 25 = .ok (.iconst 4, 1) := by decide +kernel
theorem dX6_isUnder_26 : decode cX6_isUnder 26 = .ok (.if_icmp .ne 7, 3) := by decide +kernel
theorem dX6_isUnder_29 : decode cX6_isUnder 29 = .ok (.iconst 1, 1) := by decide +kernel
theorem dX6_isUnder_30 : decode cX6_isUnder 30 = .ok (.goto 4, 3) := by decide +kernel
theorem dX6_isUnder_33 : decode cX6_isUnder 33 = .ok (.iconst 0, 1) := by decide +kernel
theorem dX6_isUnder_34 : decode cX6_isUnder 34 = .ok (.ireturn, 1) := by decide +kernel
theorem dX6_feed_0 : decode cX6_feed 0 = .ok (.iload_n 3, 1) := by decide +kernel
theorem dX6_feed_1 : decode cX6_feed 1 = .ok (.i2l, 1) := by decide +kernel
theorem dX6_feed_2 : decode cX6_feed 2 = .ok (.lconst 1, 1) := by decide +kernel
theorem dX6_feed_3 : decode cX6_feed 3 = .ok (.ldc2_w 68, 3) := by decide +kernel
theorem dX6_feed_6 : decode cX6_feed 6 = .ok (.invokestatic 70, 3) := by decide +kernel
theorem dX6_feed_9 : decode cX6_feed 9 = .ok (.ifCond .ne 5, 3) := by decide +kernel
theorem dX6_feed_12 : decode cX6_feed 12 = .ok (.iconst (-1), 1) := by decide +kernel
theorem dX6_feed_13 : decode cX6_feed 13 = .ok (.ireturn, 1) := by decide +kernel
theorem dX6_feed_14 : decode cX6_feed 14 = .ok (.aload_n 0, 1) := by decide +kernel
theorem dX6_feed_15 : decode cX6_feed 15 = .ok (.getfield 74, 3) := by decide +kernel
theorem dX6_feed_18 : decode cX6_feed 18 = .ok (.iload_n 3, 1) := by decide +kernel
theorem dX6_feed_19 : decode cX6_feed 19 = .ok (.iadd, 1) := by decide +kernel
theorem dX6_feed_20 : decode cX6_feed 20 = .ok (.sipush 200, 3) := by decide +kernel
theorem dX6_feed_23 : decode cX6_feed 23 = .ok (.if_icmp .le 6, 3) := by decide +kernel
theorem dX6_feed_26 : decode cX6_feed 26 = .ok (.bipush (-2), 2) := by decide +kernel
theorem dX6_feed_28 : decode cX6_feed 28 = .ok (.ireturn, 1) := by decide +kernel
theorem dX6_feed_29 : decode cX6_feed 29 = .ok (.iconst 0, 1) := by decide +kernel
theorem dX6_feed_30 : decode cX6_feed 30 = .ok (.istore 4, 2) := by decide +kernel
theorem dX6_feed_32 : decode cX6_feed 32 = .ok (.iload 4, 2) := by decide +kernel
theorem dX6_feed_34 : decode cX6_feed 34 = .ok (.iload_n 3, 1) := by decide +kernel
theorem dX6_feed_35 : decode cX6_feed 35 = .ok (.if_icmp .ge 40, 3) := by decide +kernel
theorem dX6_feed_38 : decode cX6_feed 38 = .ok (.aload_n 0, 1) := by decide +kernel
theorem dX6_feed_39 : decode cX6_feed 39 = .ok (.getfield 22, 3) := by decide +kernel
theorem dX6_feed_42 : decode cX6_feed 42 = .ok (.aload_n 0, 1) := by decide +kernel
theorem dX6_feed_43 : decode cX6_feed 43 = .ok (.getfield 74, 3) := by decide +kernel
theorem dX6_feed_46 : decode cX6_feed 46 = .ok (.lload_n 1, 1) := by decide +kernel
theorem dX6_feed_47 : decode cX6_feed 47 = .ok (.bipush 8, 2) := by decide +kernel
theorem dX6_feed_49 : decode cX6_feed 49 = .ok (.iload 4, 2) := by decide +kernel
theorem dX6_feed_51 : decode cX6_feed 51 = .ok (.imul, 1) := by decide +kernel
theorem dX6_feed_52 : decode cX6_feed 52 = .ok (.lshr, 1) := by decide +kernel
theorem dX6_feed_53 : decode cX6_feed 53 = .ok (.ldc2_w 78, 3) := by decide +kernel
theorem dX6_feed_56 : decode cX6_feed 56 = .ok (.land, 1) := by decide +kernel
theorem dX6_feed_57 : decode cX6_feed 57 = .ok (.l2i, 1) := by decide +kernel
theorem dX6_feed_58 : decode cX6_feed 58 = .ok (.iastore, 1) := by decide +kernel
theorem dX6_feed_59 : decode cX6_feed 59 = .ok (.aload_n 0, 1) := by decide +kernel
theorem dX6_feed_60 : decode cX6_feed 60 = .ok (.dup, 1) := by decide +kernel
theorem dX6_feed_61 : decode cX6_feed 61 = .ok (.getfield 74, 3) := by decide +kernel
theorem dX6_feed_64 : decode cX6_feed 64 = .ok (.iconst 1, 1) := by decide +kernel
theorem dX6_feed_65 : decode cX6_feed 65 = .ok (.iadd, 1) := by decide +kernel
theorem dX6_feed_66 : decode cX6_feed 66 = .ok (.putfield 74, 3) := by decide +kernel
theorem dX6_feed_69 : decode cX6_feed 69 = .ok (.iinc 4 1, 3) := by decide +kernel
theorem dX6_feed_72 : decode cX6_feed 72 = .ok (.goto (-40), 3) := by decide +kernel
theorem dX6_feed_75 : decode cX6_feed 75 = .ok (.aload_n 0, 1) := by decide +kernel
theorem dX6_feed_76 : decode cX6_feed 76 = .ok (.getfield 74, 3) := by decide +kernel
theorem dX6_feed_79 : decode cX6_feed 79 = .ok (.ireturn, 1) := by decide +kernel
theorem dX6_isAlpha_0 : decode cX6_isAlpha 0 = .ok (.iload_n 0, 1) := by decide +kernel
theorem dX6_isAlpha_1 : decode cX6_isAlpha 1 = .ok (.bipush 97, 2) := by decide +kernel
theorem dX6_isAlpha_3 : decode cX6_isAlpha 3 = .ok (.if_icmp .lt 13, 3) := by decide +kernel
theorem dX6_isAlpha_6 : decode cX6_isAlpha 6 = .ok (.iload_n 0, 1) := by decide +kernel
theorem dX6_isAlpha_7 : decode cX6_isAlpha 7 = .ok (.bipush 122, 2) := by decide +kernel
theorem dX6_isAlpha_9 : decode cX6_isAlpha 9 = .ok (.if_icmp .gt 7, 3) := by decide +kernel
theorem dX6_isAlpha_12 : decode cX6_isAlpha 12 = .ok (.iconst 1, 1) := by decide +kernel
theorem dX6_isAlpha_13 : decode cX6_isAlpha 13 = .ok (.goto 4, 3) := by decide +kernel
theorem dX6_isAlpha_16 : decode cX6_isAlpha 16 = .ok (.iconst 0, 1) := by decide +kernel
theorem dX6_isAlpha_17 : decode cX6_isAlpha 17 = .ok (.ireturn, 1) := by decide +kernel
theorem dX6_isDigit_0 : decode cX6_isDigit 0 = .ok (.iload_n 0, 1) := by decide +kernel
theorem dX6_isDigit_1 : decode cX6_isDigit 1 = .ok (.bipush 48, 2) := by decide +kernel
theorem dX6_isDigit_3 : decode cX6_isDigit 3 = .ok (.if_icmp .lt 13, 3) := by decide +kernel
theorem dX6_isDigit_6 : decode cX6_isDigit 6 = .ok (.iload_n 0, 1) := by decide +kernel
theorem dX6_isDigit_7 : decode cX6_isDigit 7 = .ok (.bipush 57, 2) := by decide +kernel
theorem dX6_isDigit_9 : decode cX6_isDigit 9 = .ok (.if_icmp .gt 7, 3) := by decide +kernel
theorem dX6_isDigit_12 : decode cX6_isDigit 12 = .ok (.iconst 1, 1) := by decide +kernel
theorem dX6_isDigit_13 : decode cX6_isDigit 13 = .ok (.goto 4, 3) := by decide +kernel
theorem dX6_isDigit_16 : decode cX6_isDigit 16 = .ok (.iconst 0, 1) := by decide +kernel
theorem dX6_isDigit_17 : decode cX6_isDigit 17 = .ok (.ireturn, 1) := by decide +kernel
theorem dX6_byteAt_0 : decode cX6_byteAt 0 = .ok (.iload_n 1, 1) := by decide +kernel
theorem dX6_byteAt_1 : decode cX6_byteAt 1 = .ok (.aload_n 0, 1) := by decide +kernel
theorem dX6_byteAt_2 : decode cX6_byteAt 2 = .ok (.getfield 74, 3) := by decide +kernel
theorem dX6_byteAt_5 : decode cX6_byteAt 5 = .ok (.if_icmp .ge 12, 3) := by decide +kernel
theorem dX6_byteAt_8 : decode cX6_byteAt 8 = .ok (.aload_n 0, 1) := by decide +kernel
theorem dX6_byteAt_9 : decode cX6_byteAt 9 = .ok (.getfield 22, 3) := by decide +kernel
theorem dX6_byteAt_12 : decode cX6_byteAt 12 = .ok (.iload_n 1, 1) := by decide +kernel
theorem dX6_byteAt_13 : decode cX6_byteAt 13 = .ok (.iaload, 1) := by decide +kernel
theorem dX6_byteAt_14 : decode cX6_byteAt 14 = .ok (.goto 4, 3) := by decide +kernel
theorem dX6_byteAt_17 : decode cX6_byteAt 17 = .ok (.iconst (-1), 1) := by decide +kernel
theorem dX6_byteAt_18 : decode cX6_byteAt 18 = .ok (.ireturn, 1) := by decide +kernel
theorem dX6_nextToken_0 : decode cX6_nextToken 0 = .ok (.aload_n 0, 1) := by decide +kernel
theorem dX6_nextToken_1 : decode cX6_nextToken 1 = .ok (.aload_n 0, 1) := by decide +kernel
theorem dX6_nextToken_2 : decode cX6_nextToken 2 = .ok (.getfield 80, 3) := by decide +kernel
theorem dX6_nextToken_5 : decode cX6_nextToken 5 = .ok (.putfield 83, 3) := by decide +kernel
theorem dX6_nextToken_8 : decode cX6_nextToken 8 = .ok (.aload_n 0, 1) := by decide +kernel
theorem dX6_nextToken_9 : decode cX6_nextToken 9 = .ok (.aload_n 0, 1) := by decide +kernel
theorem dX6_nextToken_10 : decode cX6_nextToken 10 = .ok (.getfield 83, 3) := by decide +kernel
theorem dX6_nextToken_13 : decode cX6_nextToken 13 = .ok (.invokevirtual 86, 3) := by decide +kernel
theorem dX6_nextToken_16 : decode cX6_nextToken 16 = .ok (.bipush 32, 2) := by decide +kernel
theorem dX6_nextToken_18 : decode cX6_nextToken 18 = .ok (.if_icmp .ne 16, 3) := by decide +kernel
theorem dX6_nextToken_21 : decode cX6_nextToken 21 = .ok (.aload_n 0, 1) := by decide +kernel
theorem dX6_nextToken_22 : decode cX6_nextToken 22 = .ok (.dup, 1) := by decide +kernel
theorem dX6_nextToken_23 : decode cX6_nextToken 23 = .ok (.getfield 83, 3) := by decide +kernel
theorem dX6_nextToken_26 : decode cX6_nextToken 26 = .ok (.iconst 1, 1) := by decide +kernel
theorem dX6_nextToken_27 : decode cX6_nextToken 27 = .ok (.iadd, 1) := by decide +kernel
theorem dX6_nextToken_28 : decode cX6_nextToken 28 = .ok (.putfield 83, 3) := by decide +kernel
theorem dX6_nextToken_31 : decode cX6_nextToken 31 = .ok (.goto (-23), 3) := by decide +kernel
theorem dX6_nextToken_34 : decode cX6_nextToken 34 = .ok (.aload_n 0, 1) := by decide +kernel
theorem dX6_nextToken_35 : decode cX6_nextToken 35 = .ok (.aload_n 0, 1) := by decide +kernel
theorem dX6_nextToken_36 : decode cX6_nextToken 36 = .ok (.getfield 83, 3) := by decide +kernel
theorem dX6_nextToken_39 : decode cX6_nextToken 39 = .ok (.putfield 80, 3) := by decide +kernel
theorem dX6_nextToken_42 : decode cX6_nextToken 42 = .ok (.aload_n 0, 1) := by decide +kernel
theorem dX6_nextToken_43 : decode cX6_nextToken 43 = .ok (.aload_n 0, 1) := by decide +kernel
theorem dX6_nextToken_44 : decode cX6_nextToken 44 = .ok (.getfield 83, 3) := by decide +kernel
theorem dX6_nextToken_47 : decode cX6_nextToken 47 = .ok (.invokevirtual 86, 3) := by decide +kernel
theorem dX6_nextToken_50 : decode cX6_nextToken 50 = .ok (.istore_n 1, 1) := by decide +kernel
theorem dX6_nextToken_51 : decode cX6_nextToken 51 = .ok (.aload_n 0, 1) := by decide +kernel
theorem dX6_nextToken_52 : decode cX6_nextToken 52 = .ok (.iload_n 1, 1) := by decide +kernel
theorem dX6_nextToken_53 : decode cX6_nextToken 53 = .ok (.ifCond .ge 7, 3) := by decide +kernel
theorem dX6_nextToken_56 : decode cX6_nextToken 56 = .ok (.iconst 0, 1) := by decide +kernel
theorem dX6_nextToken_57 : decode cX6_nextToken 57 = .ok (.goto 26, 3) := by decide +kernel
theorem dX6_nextToken_60 : decode cX6_nextToken 60 = .ok (.iload_n 1, 1) := by decide +kernel
theorem dX6_nextToken_61 : decode cX6_nextToken 61 = .ok (.invokestatic 90, 3) := by decide +kernel
theorem dX6_nextToken_64 : decode cX6_nextToken 64 = .ok (.ifCond .eq 7, 3) := by decide +kernel
theorem dX6_nextToken_67 : decode cX6_nextToken 67 = .ok (.iconst 1, 1) := by decide +kernel
theorem dX6_nextToken_68 : decode cX6_nextToken 68 = .ok (.goto 15, 3) := by decide +kernel
theorem dX6_nextToken_71 : decode cX6_nextToken 71 = .ok (.iload_n 1, 1) := by decide +kernel
theorem dX6_nextToken_72 : decode cX6_nextToken 72 = .ok (.invokestatic 94, 3) := by decide +kernel
theorem dX6_nextToken_75 : decode cX6_nextToken 75 = .ok (.ifCond .eq 7, 3) := by decide +kernel
theorem dX6_nextToken_78 : decode cX6_nextToken 78 = .ok (.iconst 2, 1) := by decide +kernel
theorem dX6_nextToken_79 : decode cX6_nextToken 79 = .ok (.goto 4, 3) := by decide +kernel
theorem dX6_nextToken_82 : decode cX6_nextToken 82 = .ok (.iconst 3, 1) := by decide +kernel
theorem dX6_nextToken_83 : decode cX6_nextToken 83 = .ok (.putfield 97, 3) := by decide +kernel
theorem dX6_nextToken_86 : decode cX6_nextToken 86 = .ok (.aload_n 0, 1) := by decide +kernel
theorem dX6_nextToken_87 : decode cX6_nextToken 87 = .ok (.iconst 0, 1) := by decide +kernel
theorem dX6_nextToken_88 : decode cX6_nextToken 88 = .ok (.putfield 100, 3) := by decide +kernel
theorem dX6_nextToken_91 : decode cX6_nextToken 91 = .ok (.aload_n 0, 1) := by decide +kernel
theorem dX6_nextToken_92 : decode cX6_nextToken 92 = .ok (.getfield 97, 3) := by decide +kernel
theorem dX6_nextToken_95 : decode cX6_nextToken 95 = .ok (.iconst 1, 1) := by decide +kernel
theorem dX6_nextToken_96 : decode cX6_nextToken 96 = .ok (.if_icmp .ne 30, 3) := by decide +kernel
theorem dX6_nextToken_99 : decode cX6_nextToken 99 = .ok (.aload_n 0, 1) := by decide +kernel
theorem dX6_nextToken_100 : decode cX6_nextToken 100 = .ok (.aload_n 0, 1) := by decide +kernel
theorem dX6_nextToken_101 : decode cX6_nextToken 101 = .ok (.getfield 80, 3) := by decide +kernel
theorem dX6_nextToken_104 : decode cX6_nextToken 104 = .ok (.invokevirtual 86, 3) := by decide +kernel
theorem dX6_nextToken_107 : decode cX6_nextToken 107 = .ok (.invokestatic 90, 3) := by decide +kernel
theorem dX6_nextToken_110 : decode cX6_nextToken 110 = .ok (.ifCond .eq 16, 3) := by decide +kernel
theorem dX6_nextToken_113 : decode cX6_nextToken 113 = .ok (.aload_n 0, 1) := by decide +kernel
theorem dX6_nextToken_114 : decode cX6_nextToken 114 = .ok (.dup, 1) := by decide +kernel
theorem dX6_nextToken_115 : decode cX6_nextToken 115 = .ok (.getfield 80, 3) := by decide +kernel
theorem dX6_nextToken_118 : decode cX6_nextToken 118 = .ok (.iconst 1, 1) := by decide +kernel
theorem dX6_nextToken_119 : decode cX6_nextToken 119 = .ok (.iadd, 1) := by decide +kernel
theorem dX6_nextToken_120 : decode cX6_nextToken 120 = .ok (.putfield 80, 3) := by decide +kernel
theorem dX6_nextToken_123 : decode cX6_nextToken 123 = .ok (.goto (-32), 3) := by decide +kernel
theorem dX6_nextToken_126 : decode cX6_nextToken 126 = .ok (.aload_n 0, 1) := by decide +kernel
theorem dX6_nextToken_127 : decode cX6_nextToken 127 = .ok (.getfield 97, 3) := by decide +kernel
theorem dX6_nextToken_130 : decode cX6_nextToken 130 = .ok (.iconst 2, 1) := by decide +kernel
theorem dX6_nextToken_131 : decode cX6_nextToken 131 = .ok (.if_icmp .ne 70, 3) := by decide +kernel
theorem dX6_nextToken_134 : decode cX6_nextToken 134 = .ok (.aload_n 0, 1) := by decide +kernel
theorem dX6_nextToken_135 : decode cX6_nextToken 135 = .ok (.aload_n 0, 1) := by decide +kernel
theorem dX6_nextToken_136 : decode cX6_nextToken 136 = .ok (.getfield 80, 3) := by decide +kernel
theorem dX6_nextToken_139 : decode cX6_nextToken 139 = .ok (.invokevirtual 86, 3) := by decide +kernel
theorem dX6_nextToken_142 : decode cX6_nextToken 142 = .ok (.invokestatic 94, 3) := by decide +kernel
theorem dX6_nextToken_145 : decode cX6_nextToken 145 = .ok (.ifCond .eq 56, 3) := by decide +kernel
theorem dX6_nextToken_148 : decode cX6_nextToken 148 = .ok (.aload_n 0, 1) := by decide +kernel
theorem dX6_nextToken_149 : decode cX6_nextToken 149 = .ok (.aload_n 0, 1) := by decide +kernel
theorem dX6_nextToken_150 : decode cX6_nextToken 150 = .ok (.getfield 100, 3) := by decide +kernel
theorem dX6_nextToken_153 : decode cX6_nextToken 153 = .ok (.sipush 999, 3) := by decide +kernel
theorem dX6_nextToken_156 : decode cX6_nextToken 156 = .ok (.if_icmp .le 10, 3) := by decide +kernel
theorem dX6_nextToken_159 : decode cX6_nextToken 159 = .ok (.aload_n 0, 1) := by decide +kernel
theorem dX6_nextToken_160 : decode cX6_nextToken 160 = .ok (.getfield 100, 3) := by decide +kernel
theorem dX6_nextToken_163 : decode cX6_nextToken 163 = .ok (.goto 22, 3) := by decide +kernel
theorem dX6_nextToken_166 : decode cX6_nextToken 166 = .ok (.bipush 10, 2) := by decide +kernel
theorem dX6_nextToken_168 : decode cX6_nextToken 168 = .ok (.aload_n 0, 1) := by decide +kernel
theorem dX6_nextToken_169 : decode cX6_nextToken 169 = .ok (.getfield 100, 3) := by decide +kernel
theorem dX6_nextToken_172 : decode cX6_nextToken 172 = .ok (.imul, 1) := by decide +kernel
theorem dX6_nextToken_173 : decode cX6_nextToken 173 = .ok (.aload_n 0, 1) := by decide +kernel
theorem dX6_nextToken_174 : decode cX6_nextToken 174 = .ok (.aload_n 0, 1) := by decide +kernel
theorem dX6_nextToken_175 : decode cX6_nextToken 175 = .ok (.getfield 80, 3) := by decide +kernel
theorem dX6_nextToken_178 : decode cX6_nextToken 178 = .ok (.invokevirtual 86, 3) := by decide +kernel
theorem dX6_nextToken_181 : decode cX6_nextToken 181 = .ok (.iadd, 1) := by decide +kernel
theorem dX6_nextToken_182 : decode cX6_nextToken 182 = .ok (.bipush 48, 2) := by decide +kernel
theorem dX6_nextToken_184 : decode cX6_nextToken 184 = .ok (.isub, 1) := by decide +kernel
theorem dX6_nextToken_185 : decode cX6_nextToken 185 = .ok (.putfield 100, 3) := by decide +kernel
theorem dX6_nextToken_188 : decode cX6_nextToken 188 = .ok (.aload_n 0, 1) := by decide +kernel
theorem dX6_nextToken_189 : decode cX6_nextToken 189 = .ok (.dup, 1) := by decide +kernel
theorem dX6_nextToken_190 : decode cX6_nextToken 190 = .ok (.getfield 80, 3) := by decide +kernel
theorem dX6_nextToken_193 : decode cX6_nextToken 193 = .ok (.iconst 1, 1) := by decide +kernel
theorem dX6_nextToken_194 : decode cX6_nextToken 194 = .ok (.iadd, 1) := by decide +kernel
theorem dX6_nextToken_195 : decode cX6_nextToken 195 = .ok (.putfield 80, 3) := by decide +kernel
theorem dX6_nextToken_198 : decode cX6_nextToken 198 = .ok (.goto (-72), 3) := by decide +kernel
theorem dX6_nextToken_201 : decode cX6_nextToken 201 = .ok (.aload_n 0, 1) := by decide +kernel
theorem dX6_nextToken_202 : decode cX6_nextToken 202 = .ok (.dup, 1) := by decide +kernel
theorem dX6_nextToken_203 : decode cX6_nextToken 203 = .ok (.getfield 80, 3) := by decide +kernel
theorem dX6_nextToken_206 : decode cX6_nextToken 206 = .ok (.aload_n 0, 1) := by decide +kernel
theorem dX6_nextToken_207 : decode cX6_nextToken 207 = .ok (.getfield 97, 3) := by decide +kernel
theorem dX6_nextToken_210 : decode cX6_nextToken 210 = .ok (.iconst 2, 1) := by decide +kernel
theorem dX6_nextToken_211 : decode cX6_nextToken 211 = .ok (.if_icmp .le 7, 3) := by decide +kernel
theorem dX6_nextToken_214 : decode cX6_nextToken 214 = .ok (.iconst 1, 1) := by decide +kernel
theorem dX6_nextToken_215 : decode cX6_nextToken 215 = .ok (.goto 4, 3) := by decide +kernel
theorem dX6_nextToken_218 : decode cX6_nextToken 218 = .ok (.iconst 0, 1) := by decide +kernel
theorem dX6_nextToken_219 : decode cX6_nextToken 219 = .ok (.iadd, 1) := by decide +kernel
theorem dX6_nextToken_220 : decode cX6_nextToken 220 = .ok (.putfield 80, 3) := by decide +kernel
theorem dX6_nextToken_223 : decode cX6_nextToken 223 = .ok (.return_, 1) := by decide +kernel
theorem dX6_needs_0 : decode cX6_needs 0 = .ok (.aload_n 0, 1) := by decide +kernel
theorem dX6_needs_1 : decode cX6_needs 1 = .ok (.aload_n 0, 1) := by decide +kernel
theorem dX6_needs_2 : decode cX6_needs 2 = .ok (.getfield 103, 3) := by decide +kernel
theorem dX6_needs_5 : decode cX6_needs 5 = .ok (.ifCond .ne 7, 3) := by decide +kernel
theorem dX6_needs_8 : decode cX6_needs 8 = .ok (.iload_n 1, 1) := by decide +kernel
theorem dX6_needs_9 : decode cX6_needs 9 = .ok (.ifCond .ne 7, 3) := by decide +kernel
theorem dX6_needs_12 : decode cX6_needs 12 = .ok (.iconst 1, 1) := by decide +kernel
theorem dX6_needs_13 : decode cX6_needs 13 = .ok (.goto 4, 3) := by decide +kernel
theorem dX6_needs_16 : decode cX6_needs 16 = .ok (.iconst 0, 1) := by decide +kernel
theorem dX6_needs_17 : decode cX6_needs 17 = .ok (.putfield 103, 3) := by decide +kernel
theorem dX6_needs_20 : decode cX6_needs 20 = .ok (.aload_n 0, 1) := by decide +kernel
theorem dX6_needs_21 : decode cX6_needs 21 = .ok (.getfield 103, 3) := by decide +kernel
theorem dX6_needs_24 : decode cX6_needs 24 = .ok (.ifCond .ne 7, 3) := by decide +kernel
theorem dX6_needs_27 : decode cX6_needs 27 = .ok (.aload_n 0, 1) := by decide +kernel
theorem dX6_needs_28 : decode cX6_needs 28 = .ok (.invokevirtual 107, 3) := by decide +kernel
theorem dX6_needs_31 : decode cX6_needs 31 = .ok (.return_, 1) := by decide +kernel
theorem dX6_isName_0 : decode cX6_isName 0 = .ok (.aload_n 0, 1) := by decide +kernel
theorem dX6_isName_1 : decode cX6_isName 1 = .ok (.getfield 97, 3) := by decide +kernel
theorem dX6_isName_4 : decode cX6_isName 4 = .ok (.iconst 1, 1) := by decide +kernel
theorem dX6_isName_5 : decode cX6_isName 5 = .ok (.if_icmp .ne 76, 3) := by decide +kernel
theorem dX6_isName_8 : decode cX6_isName 8 = .ok (.aload_n 0, 1) := by decide +kernel
theorem dX6_isName_9 : decode cX6_isName 9 = .ok (.getfield 80, 3) := by decide +kernel
theorem dX6_isName_12 : decode cX6_isName 12 = .ok (.aload_n 0, 1) := by decide +kernel
theorem dX6_isName_13 : decode cX6_isName 13 = .ok (.getfield 83, 3) := by decide +kernel
theorem dX6_isName_16 : decode cX6_isName 16 = .ok (.isub, 1) := by decide +kernel
theorem dX6_isName_17 : decode cX6_isName 17 = .ok (.iload_n 1, 1) := by decide +kernel
theorem dX6_isName_18 : decode cX6_isName 18 = .ok (.if_icmp .ne 63, 3) := by decide +kernel
theorem dX6_isName_21 : decode cX6_isName 21 = .ok (.aload_n 0, 1) := by decide +kernel
theorem dX6_isName_22 : decode cX6_isName 22 = .ok (.aload_n 0, 1) := by decide +kernel
theorem dX6_isName_23 : decode cX6_isName 23 = .ok (.getfield 83, 3) := by decide +kernel
theorem dX6_isName_26 : decode cX6_isName 26 = .ok (.invokevirtual 86, 3) := by decide +kernel
theorem dX6_isName_29 : decode cX6_isName 29 = .ok (.iload_n 2, 1) := by decide +kernel
theorem dX6_isName_30 : decode cX6_isName 30 = .ok (.if_icmp .ne 51, 3) := by decide +kernel
theorem dX6_isName_33 : decode cX6_isName 33 = .ok (.aload_n 0, 1) := by decide +kernel
theorem dX6_isName_34 : decode cX6_isName 34 = .ok (.aload_n 0, 1) := by decide +kernel
theorem dX6_isName_35 : decode cX6_isName 35 = .ok (.getfield 83, 3) := by decide +kernel
theorem dX6_isName_38 : decode cX6_isName 38 = .ok (.iconst 1, 1) := by decide +kernel
theorem dX6_isName_39 : decode cX6_isName 39 = .ok (.iadd, 1) := by decide +kernel
theorem dX6_isName_40 : decode cX6_isName 40 = .ok (.invokevirtual 86, 3) := by decide +kernel
theorem dX6_isName_43 : decode cX6_isName 43 = .ok (.iload_n 3, 1) := by decide +kernel
theorem dX6_isName_44 : decode cX6_isName 44 = .ok (.if_icmp .ne 37, 3) := by decide +kernel
theorem dX6_isName_47 : decode cX6_isName 47 = .ok (.aload_n 0, 1) := by decide +kernel
theorem dX6_isName_48 : decode cX6_isName 48 = .ok (.aload_n 0, 1) := by decide +kernel
theorem dX6_isName_49 : decode cX6_isName 49 = .ok (.getfield 83, 3) := by decide +kernel
theorem dX6_isName_52 : decode cX6_isName 52 = .ok (.iconst 2, 1) := by decide +kernel
theorem dX6_isName_53 : decode cX6_isName 53 = .ok (.iadd, 1) := by decide +kernel
theorem dX6_isName_54 : decode cX6_isName 54 = .ok (.invokevirtual 86, 3) := by decide +kernel
theorem dX6_isName_57 : decode cX6_isName 57 = .ok (.iload 4, 2) := by decide +kernel
theorem dX6_isName_59 : decode cX6_isName 59 = .ok (.if_icmp .ne 22, 3) := by decide +kernel
theorem dX6_isName_62 : decode cX6_isName 62 = .ok (.aload_n 0, 1) := by decide +kernel
theorem dX6_isName_63 : decode cX6_isName 63 = .ok (.aload_n 0, 1) := by decide +kernel
theorem dX6_isName_64 : decode cX6_isName 64 = .ok (.getfield 80, 3) := by decide +kernel
theorem dX6_isName_67 : decode cX6_isName 67 = .ok (.iconst 1, 1) := by decide +kernel
theorem dX6_isName_68 : decode cX6_isName 68 = .ok (.isub, 1) := by decide +kernel
theorem dX6_isName_69 : decode cX6_isName 69 = .ok (.invokevirtual 86, 3) := by decide +kernel
theorem dX6_isName_72 : decode cX6_isName 72 = .ok (.iload 5, 2) := by decide +kernel
theorem dX6_isName_74 : decode cX6_isName 74 = .ok (.if_icmp .ne 7, 3) := by decide +kernel
theorem dX6_isName_77 : decode cX6_isName 77 = .ok (.iconst 1, 1) := by decide +kernel
theorem dX6_isName_78 : decode cX6_isName 78 = .ok (.goto 4, 3) := by decide +kernel
theorem dX6_isName_81 : decode cX6_isName 81 = .ok (.iconst 0, 1) := by decide +kernel
theorem dX6_isName_82 : decode cX6_isName 82 = .ok (.ireturn, 1) := by decide +kernel
theorem dX6_isSame_0 : decode cX6_isSame 0 = .ok (.aload_n 0, 1) := by decide +kernel
theorem dX6_isSame_1 : decode cX6_isSame 1 = .ok (.aload_n 0, 1) := by decide +kernel
theorem dX6_isSame_2 : decode cX6_isSame 2 = .ok (.getfield 83, 3) := by decide +kernel
theorem dX6_isSame_5 : decode cX6_isSame 5 = .ok (.iload_n 1, 1) := by decide +kernel
theorem dX6_isSame_6 : decode cX6_isSame 6 = .ok (.iadd, 1) := by decide +kernel
theorem dX6_isSame_7 : decode cX6_isSame 7 = .ok (.invokevirtual 86, 3) := by decide +kernel
theorem dX6_isSame_10 : decode cX6_isSame 10 = .ok (.iload_n 2, 1) := by decide +kernel
theorem dX6_isSame_11 : decode cX6_isSame 11 = .ok (.if_icmp .ne 40, 3) := by decide +kernel
theorem dX6_isSame_14 : decode cX6_isSame 14 = .ok (.aload_n 0, 1) := by decide +kernel
theorem dX6_isSame_15 : decode cX6_isSame 15 = .ok (.aload_n 0, 1) := by decide +kernel
theorem dX6_isSame_16 : decode cX6_isSame 16 = .ok (.getfield 83, 3) := by decide +kernel
theorem dX6_isSame_19 : decode cX6_isSame 19 = .ok (.iload_n 1, 1) := by decide +kernel
theorem dX6_isSame_20 : decode cX6_isSame 20 = .ok (.iadd, 1) := by decide +kernel
theorem dX6_isSame_21 : decode cX6_isSame 21 = .ok (.iconst 1, 1) := by decide +kernel
theorem dX6_isSame_22 : decode cX6_isSame 22 = .ok (.iadd, 1) := by decide +kernel
theorem dX6_isSame_23 : decode cX6_isSame 23 = .ok (.invokevirtual 86, 3) := by decide +kernel
theorem dX6_isSame_26 : decode cX6_isSame 26 = .ok (.iload_n 3, 1) := by decide +kernel
theorem dX6_isSame_27 : decode cX6_isSame 27 = .ok (.if_icmp .ne 24, 3) := by decide +kernel
theorem dX6_isSame_30 : decode cX6_isSame 30 = .ok (.aload_n 0, 1) := by decide +kernel
theorem dX6_isSame_31 : decode cX6_isSame 31 = .ok (.aload_n 0, 1) := by decide +kernel
theorem dX6_isSame_32 : decode cX6_isSame 32 = .ok (.getfield 83, 3) := by decide +kernel
theorem dX6_isSame_35 : decode cX6_isSame 35 = .ok (.iload_n 1, 1) := by decide +kernel
theorem dX6_isSame_36 : decode cX6_isSame 36 = .ok (.iadd, 1) := by decide +kernel
theorem dX6_isSame_37 : decode cX6_isSame 37 = .ok (.iconst 2, 1) := by decide +kernel
theorem dX6_isSame_38 : decode cX6_isSame 38 = .ok (.iadd, 1) := by decide +kernel
theorem dX6_isSame_39 : decode cX6_isSame 39 = .ok (.invokevirtual 86, 3) := by decide +kernel
theorem dX6_isSame_42 : decode cX6_isSame 42 = .ok (.iload 4, 2) := by decide +kernel
theorem dX6_isSame_44 : decode cX6_isSame 44 = .ok (.if_icmp .ne 7, 3) := by decide +kernel
theorem dX6_isSame_47 : decode cX6_isSame 47 = .ok (.iconst 1, 1) := by decide +kernel
theorem dX6_isSame_48 : decode cX6_isSame 48 = .ok (.goto 4, 3) := by decide +kernel
theorem dX6_isSame_51 : decode cX6_isSame 51 = .ok (.iconst 0, 1) := by decide +kernel
theorem dX6_isSame_52 : decode cX6_isSame 52 = .ok (.ireturn, 1) := by decide +kernel
theorem dX6_isFour_0 : decode cX6_isFour 0 = .ok (.aload_n 0, 1) := by decide +kernel
theorem dX6_isFour_1 : decode cX6_isFour 1 = .ok (.iconst 4, 1) := by decide +kernel
theorem dX6_isFour_2 : decode cX6_isFour 2 = .ok (.iload_n 1, 1) := by decide +kernel
theorem dX6_isFour_3 : decode cX6_isFour 3 = .ok (.iload_n 2, 1) := by decide +kernel
theorem dX6_isFour_4 : decode cX6_isFour 4 = .ok (.iload_n 3, 1) := by decide +kernel
theorem dX6_isFour_5 : decode cX6_isFour 5 = .ok (.iload 4, 2) := by decide +kernel
theorem dX6_isFour_7 : decode cX6_isFour 7 = .ok (.invokevirtual 110, 3) := by decide +kernel
theorem dX6_isFour_10 : decode cX6_isFour 10 = .ok (.ireturn, 1) := by decide +kernel
theorem dX6_isFive_0 : decode cX6_isFive 0 = .ok (.aload_n 0, 1) := by decide +kernel
theorem dX6_isFive_1 : decode cX6_isFive 1 = .ok (.iconst 5, 1) := by decide +kernel
theorem dX6_isFive_2 : decode cX6_isFive 2 = .ok (.iload_n 1, 1) := by decide +kernel
theorem dX6_isFive_3 : decode cX6_isFive 3 = .ok (.iload_n 2, 1) := by decide +kernel
theorem dX6_isFive_4 : decode cX6_isFive 4 = .ok (.iload_n 3, 1) := by decide +kernel
theorem dX6_isFive_5 : decode cX6_isFive 5 = .ok (.iload 5, 2) := by decide +kernel
theorem dX6_isFive_7 : decode cX6_isFive 7 = .ok (.invokevirtual 110, 3) := by decide +kernel
theorem dX6_isFive_10 : decode cX6_isFive 10 = .ok (.ifCond .eq 22, 3) := by decide +kernel
theorem dX6_isFive_13 : decode cX6_isFive 13 = .ok (.aload_n 0, 1) := by decide +kernel
theorem dX6_isFive_14 : decode cX6_isFive 14 = .ok (.aload_n 0, 1) := by decide +kernel
theorem dX6_isFive_15 : decode cX6_isFive 15 = .ok (.getfield 83, 3) := by decide +kernel
theorem dX6_isFive_18 : decode cX6_isFive 18 = .ok (.iconst 3, 1) := by decide +kernel
theorem dX6_isFive_19 : decode cX6_isFive 19 = .ok (.iadd, 1) := by decide +kernel
theorem dX6_isFive_20 : decode cX6_isFive 20 = .ok (.invokevirtual 86, 3) := by decide +kernel
theorem dX6_isFive_23 : decode cX6_isFive 23 = .ok (.iload 4, 2) := by decide +kernel
theorem dX6_isFive_25 : decode cX6_isFive 25 = .ok (.if_icmp .ne 7, 3) := by decide +kernel
theorem dX6_isFive_28 : decode cX6_isFive 28 = .ok (.iconst 1, 1) := by decide +kernel
theorem dX6_isFive_29 : decode cX6_isFive 29 = .ok (.goto 4, 3) := by decide +kernel
theorem dX6_isFive_32 : decode cX6_isFive 32 = .ok (.iconst 0, 1) := by decide +kernel
theorem dX6_isFive_33 : decode cX6_isFive 33 = .ok (.ireturn, 1) := by decide +kernel
theorem dX6_kindHere_0 : decode cX6_kindHere 0 = .ok (.aload_n 0, 1) := by decide +kernel
theorem dX6_kindHere_1 : decode cX6_kindHere 1 = .ok (.iconst 3, 1) := by decide +kernel
theorem dX6_kindHere_2 : decode cX6_kindHere 2 = .ok (.bipush 97, 2) := by decide +kernel
theorem dX6_kindHere_4 : decode cX6_kindHere 4 = .ok (.bipush 105, 2) := by decide +kernel
theorem dX6_kindHere_6 : decode cX6_kindHere 6 = .ok (.bipush 114, 2) := by decide +kernel
theorem dX6_kindHere_8 : decode cX6_kindHere 8 = .ok (.bipush 114, 2) := by decide +kernel
theorem dX6_kindHere_10 : decode cX6_kindHere 10 = .ok (.invokevirtual 110, 3) := by decide +kernel
theorem dX6_kindHere_13 : decode cX6_kindHere 13 = .ok (.ifCond .eq 5, 3) := by decide +kernel
theorem dX6_kindHere_16 : decode cX6_kindHere 16 = .ok (.iconst 0, 1) := by decide +kernel
theorem dX6_kindHere_17 : decode cX6_kindHere 17 = .ok (.ireturn, 1) := by decide +kernel
theorem dX6_kindHere_18 : decode cX6_kindHere 18 = .ok (.aload_n 0, 1) := by decide +kernel
theorem dX6_kindHere_19 : decode cX6_kindHere 19 = .ok (.bipush 114, 2) := by decide +kernel
theorem dX6_kindHere_21 : decode cX6_kindHere 21 = .ok (.bipush 97, 2) := by decide +kernel
theorem dX6_kindHere_23 : decode cX6_kindHere 23 = .ok (.bipush 105, 2) := by decide +kernel
theorem dX6_kindHere_25 : decode cX6_kindHere 25 = .ok (.bipush 110, 2) := by decide +kernel
theorem dX6_kindHere_27 : decode cX6_kindHere 27 = .ok (.invokevirtual 114, 3) := by decide +kernel
theorem dX6_kindHere_30 : decode cX6_kindHere 30 = .ok (.ifCond .eq 5, 3) := by decide +kernel
theorem dX6_kindHere_33 : decode cX6_kindHere 33 = .ok (.iconst 1, 1) := by decide +kernel
theorem dX6_kindHere_34 : decode cX6_kindHere 34 = .ok (.ireturn, 1) := by decide +kernel
theorem dX6_kindHere_35 : decode cX6_kindHere 35 = .ok (.aload_n 0, 1) := by decide +kernel
theorem dX6_kindHere_36 : decode cX6_kindHere 36 = .ok (.iconst 3, 1) := by decide +kernel
theorem dX6_kindHere_37 : decode cX6_kindHere 37 = .ok (.bipush 102, 2) := by decide +kernel
theorem dX6_kindHere_39 : decode cX6_kindHere 39 = .ok (.bipush 111, 2) := by decide +kernel
theorem dX6_kindHere_41 : decode cX6_kindHere 41 = .ok (.bipush 103, 2) := by decide +kernel
theorem dX6_kindHere_43 : decode cX6_kindHere 43 = .ok (.bipush 103, 2) := by decide +kernel
theorem dX6_kindHere_45 : decode cX6_kindHere 45 = .ok (.invokevirtual 110, 3) := by decide +kernel
theorem dX6_kindHere_48 : decode cX6_kindHere 48 = .ok (.ifCond .eq 5, 3) := by decide +kernel
theorem dX6_kindHere_51 : decode cX6_kindHere 51 = .ok (.iconst 2, 1) := by decide +kernel
theorem dX6_kindHere_52 : decode cX6_kindHere 52 = .ok (.ireturn, 1) := by decide +kernel
theorem dX6_kindHere_53 : decode cX6_kindHere 53 = .ok (.aload_n 0, 1) := by decide +kernel
theorem dX6_kindHere_54 : decode cX6_kindHere 54 = .ok (.bipush 7, 2) := by decide +kernel
theorem dX6_kindHere_56 : decode cX6_kindHere 56 = .ok (.bipush 100, 2) := by decide +kernel
theorem dX6_kindHere_58 : decode cX6_kindHere 58 = .ok (.bipush 114, 2) := by decide +kernel
theorem dX6_kindHere_60 : decode cX6_kindHere 60 = .ok (.bipush 105, 2) := by decide +kernel
theorem dX6_kindHere_62 : decode cX6_kindHere 62 = .ok (.bipush 101, 2) := by decide +kernel
theorem dX6_kindHere_64 : decode cX6_kindHere 64 = .ok (.invokevirtual 110, 3) := by decide +kernel
theorem dX6_kindHere_67 : decode cX6_kindHere 67 = .ok (.ifCond .eq 19, 3) := by decide +kernel
theorem dX6_kindHere_70 : decode cX6_kindHere 70 = .ok (.aload_n 0, 1) := by decide +kernel
theorem dX6_kindHere_71 : decode cX6_kindHere 71 = .ok (.iconst 3, 1) := by decide +kernel
theorem dX6_kindHere_72 : decode cX6_kindHere 72 = .ok (.bipush 122, 2) := by decide +kernel
theorem dX6_kindHere_74 : decode cX6_kindHere 74 = .ok (.bipush 122, 2) := by decide +kernel
theorem dX6_kindHere_76 : decode cX6_kindHere 76 = .ok (.bipush 108, 2) := by decide +kernel
theorem dX6_kindHere_78 : decode cX6_kindHere 78 = .ok (.invokevirtual 118, 3) := by decide +kernel
theorem dX6_kindHere_81 : decode cX6_kindHere 81 = .ok (.ifCond .eq 5, 3) := by decide +kernel
theorem dX6_kindHere_84 : decode cX6_kindHere 84 = .ok (.iconst 3, 1) := by decide +kernel
theorem dX6_kindHere_85 : decode cX6_kindHere 85 = .ok (.ireturn, 1) := by decide +kernel
theorem dX6_kindHere_86 : decode cX6_kindHere 86 = .ok (.aload_n 0, 1) := by decide +kernel
theorem dX6_kindHere_87 : decode cX6_kindHere 87 = .ok (.bipush 109, 2) := by decide +kernel
theorem dX6_kindHere_89 : decode cX6_kindHere 89 = .ok (.bipush 105, 2) := by decide +kernel
theorem dX6_kindHere_91 : decode cX6_kindHere 91 = .ok (.bipush 115, 2) := by decide +kernel
theorem dX6_kindHere_93 : decode cX6_kindHere 93 = .ok (.bipush 116, 2) := by decide +kernel
theorem dX6_kindHere_95 : decode cX6_kindHere 95 = .ok (.invokevirtual 114, 3) := by decide +kernel
theorem dX6_kindHere_98 : decode cX6_kindHere 98 = .ok (.ifCond .eq 5, 3) := by decide +kernel
theorem dX6_kindHere_101 : decode cX6_kindHere 101 = .ok (.iconst 4, 1) := by decide +kernel
theorem dX6_kindHere_102 : decode cX6_kindHere 102 = .ok (.ireturn, 1) := by decide +kernel
theorem dX6_kindHere_103 : decode cX6_kindHere 103 = .ok (.aload_n 0, 1) := by decide +kernel
theorem dX6_kindHere_104 : decode cX6_kindHere 104 = .ok (.bipush 104, 2) := by decide +kernel
theorem dX6_kindHere_106 : decode cX6_kindHere 106 = .ok (.bipush 101, 2) := by decide +kernel
theorem dX6_kindHere_108 : decode cX6_kindHere 108 = .ok (.bipush 97, 2) := by decide +kernel
theorem dX6_kindHere_110 : decode cX6_kindHere 110 = .ok (.bipush 116, 2) := by decide +kernel
theorem dX6_kindHere_112 : decode cX6_kindHere 112 = .ok (.invokevirtual 114, 3) := by decide +kernel
theorem dX6_kindHere_115 : decode cX6_kindHere 115 = .ok (.ifCond .eq 7, 3) := by decide +kernel
theorem dX6_kindHere_118 : decode cX6_kindHere 118 = .ok (.iconst 5, 1) := by decide +kernel
theorem dX6_kindHere_119 : decode cX6_kindHere 119 = .ok (.goto 4, 3) := by decide +kernel
theorem dX6_kindHere_122 : decode cX6_kindHere 122 = .ok (.iconst (-1), 1) := by decide +kernel
theorem dX6_kindHere_123 : decode cX6_kindHere 123 = .ok (.ireturn, 1) := by decide +kernel
theorem dX6_numberTo_0 : decode cX6_numberTo 0 = .ok (.aload_n 0, 1) := by decide +kernel
theorem dX6_numberTo_1 : decode cX6_numberTo 1 = .ok (.getfield 97, 3) := by decide +kernel
theorem dX6_numberTo_4 : decode cX6_numberTo 4 = .ok (.iconst 2, 1) := by decide +kernel
theorem dX6_numberTo_5 : decode cX6_numberTo 5 = .ok (.if_icmp .ne 36, 3) := by decide +kernel
theorem dX6_numberTo_8 : decode cX6_numberTo 8 = .ok (.aload_n 0, 1) := by decide +kernel
theorem dX6_numberTo_9 : decode cX6_numberTo 9 = .ok (.getfield 80, 3) := by decide +kernel
theorem dX6_numberTo_12 : decode cX6_numberTo 12 = .ok (.aload_n 0, 1) := by decide +kernel
theorem dX6_numberTo_13 : decode cX6_numberTo 13 = .ok (.getfield 83, 3) := by decide +kernel
theorem dX6_numberTo_16 : decode cX6_numberTo 16 = .ok (.isub, 1) := by decide +kernel
theorem dX6_numberTo_17 : decode cX6_numberTo 17 = .ok (.iconst 3, 1) := by decide +kernel
theorem dX6_numberTo_18 : decode cX6_numberTo 18 = .ok (.if_icmp .gt 23, 3) := by decide +kernel
theorem dX6_numberTo_21 : decode cX6_numberTo 21 = .ok (.aload_n 0, 1) := by decide +kernel
theorem dX6_numberTo_22 : decode cX6_numberTo 22 = .ok (.getfield 100, 3) := by decide +kernel
theorem dX6_numberTo_25 : decode cX6_numberTo 25 = .ok (.iload_n 2, 1) := by decide +kernel
theorem dX6_numberTo_26 : decode cX6_numberTo 26 = .ok (.if_icmp .lt 15, 3) := by decide +kernel
theorem dX6_numberTo_29 : decode cX6_numberTo 29 = .ok (.aload_n 0, 1) := by decide +kernel
theorem dX6_numberTo_30 : decode cX6_numberTo 30 = .ok (.getfield 100, 3) := by decide +kernel
theorem dX6_numberTo_33 : decode cX6_numberTo 33 = .ok (.iload_n 3, 1) := by decide +kernel
theorem dX6_numberTo_34 : decode cX6_numberTo 34 = .ok (.if_icmp .gt 7, 3) := by decide +kernel
theorem dX6_numberTo_37 : decode cX6_numberTo 37 = .ok (.iconst 1, 1) := by decide +kernel
theorem dX6_numberTo_38 : decode cX6_numberTo 38 = .ok (.goto 4, 3) := by decide +kernel
theorem dX6_numberTo_41 : decode cX6_numberTo 41 = .ok (.iconst 0, 1) := by decide +kernel
theorem dX6_numberTo_42 : decode cX6_numberTo 42 = .ok (.istore 4, 2) := by decide +kernel
theorem dX6_numberTo_44 : decode cX6_numberTo 44 = .ok (.iload 4, 2) := by decide +kernel
theorem dX6_numberTo_46 : decode cX6_numberTo 46 = .ok (.ifCond .eq 20, 3) := by decide +kernel
theorem dX6_numberTo_49 : decode cX6_numberTo 49 = .ok (.aload_n 0, 1) := by decide +kernel
theorem dX6_numberTo_50 : decode cX6_numberTo 50 = .ok (.getfield 103, 3) := by decide +kernel
theorem dX6_numberTo_53 : decode cX6_numberTo 53 = .ok (.ifCond .ne 13, 3) := by decide +kernel
theorem dX6_numberTo_56 : decode cX6_numberTo 56 = .ok (.aload_n 0, 1) := by decide +kernel
theorem dX6_numberTo_57 : decode cX6_numberTo 57 = .ok (.getfield 7, 3) := by decide +kernel
theorem dX6_numberTo_60 : decode cX6_numberTo 60 = .ok (.iload_n 1, 1) := by decide +kernel
theorem dX6_numberTo_61 : decode cX6_numberTo 61 = .ok (.aload_n 0, 1) := by decide +kernel
theorem dX6_numberTo_62 : decode cX6_numberTo 62 = .ok (.getfield 100, 3) := by decide +kernel
theorem dX6_numberTo_65 : decode cX6_numberTo 65 = .ok (.iastore, 1) := by decide +kernel
theorem dX6_numberTo_66 : decode cX6_numberTo 66 = .ok (.aload_n 0, 1) := by decide +kernel
theorem dX6_numberTo_67 : decode cX6_numberTo 67 = .ok (.iload 4, 2) := by decide +kernel
theorem dX6_numberTo_69 : decode cX6_numberTo 69 = .ok (.invokevirtual 121, 3) := by decide +kernel
theorem dX6_numberTo_72 : decode cX6_numberTo 72 = .ok (.return_, 1) := by decide +kernel
theorem dX6_perhaps_0 : decode cX6_perhaps 0 = .ok (.aload_n 0, 1) := by decide +kernel
theorem dX6_perhaps_1 : decode cX6_perhaps 1 = .ok (.getfield 103, 3) := by decide +kernel
theorem dX6_perhaps_4 : decode cX6_perhaps 4 = .ok (.ifCond .ne 18, 3) := by decide +kernel
theorem dX6_perhaps_7 : decode cX6_perhaps 7 = .ok (.iload_n 1, 1) := by decide +kernel
theorem dX6_perhaps_8 : decode cX6_perhaps 8 = .ok (.ifCond .eq 14, 3) := by decide +kernel
theorem dX6_perhaps_11 : decode cX6_perhaps 11 = .ok (.aload_n 0, 1) := by decide +kernel
theorem dX6_perhaps_12 : decode cX6_perhaps 12 = .ok (.invokevirtual 107, 3) := by decide +kernel
theorem dX6_perhaps_15 : decode cX6_perhaps 15 = .ok (.aload_n 0, 1) := by decide +kernel
theorem dX6_perhaps_16 : decode cX6_perhaps 16 = .ok (.iload_n 2, 1) := by decide +kernel
theorem dX6_perhaps_17 : decode cX6_perhaps 17 = .ok (.iconst 0, 1) := by decide +kernel
theorem dX6_perhaps_18 : decode cX6_perhaps 18 = .ok (.iload_n 3, 1) := by decide +kernel
theorem dX6_perhaps_19 : decode cX6_perhaps 19 = .ok (.invokevirtual 125, 3) := by decide +kernel
theorem dX6_perhaps_22 : decode cX6_perhaps 22 = .ok (.return_, 1) := by decide +kernel
theorem dX6_isTwo_0 : decode cX6_isTwo 0 = .ok (.aload_n 0, 1) := by decide +kernel
theorem dX6_isTwo_1 : decode cX6_isTwo 1 = .ok (.getfield 97, 3) := by decide +kernel
theorem dX6_isTwo_4 : decode cX6_isTwo 4 = .ok (.iconst 1, 1) := by decide +kernel
theorem dX6_isTwo_5 : decode cX6_isTwo 5 = .ok (.if_icmp .ne 46, 3) := by decide +kernel
theorem dX6_isTwo_8 : decode cX6_isTwo 8 = .ok (.aload_n 0, 1) := by decide +kernel
theorem dX6_isTwo_9 : decode cX6_isTwo 9 = .ok (.getfield 80, 3) := by decide +kernel
theorem dX6_isTwo_12 : decode cX6_isTwo 12 = .ok (.aload_n 0, 1) := by decide +kernel
theorem dX6_isTwo_13 : decode cX6_isTwo 13 = .ok (.getfield 83, 3) := by decide +kernel
theorem dX6_isTwo_16 : decode cX6_isTwo 16 = .ok (.isub, 1) := by decide +kernel
theorem dX6_isTwo_17 : decode cX6_isTwo 17 = .ok (.iconst 2, 1) := by decide +kernel
theorem dX6_isTwo_18 : decode cX6_isTwo 18 = .ok (.if_icmp .ne 33, 3) := by decide +kernel
theorem dX6_isTwo_21 : decode cX6_isTwo 21 = .ok (.aload_n 0, 1) := by decide +kernel
theorem dX6_isTwo_22 : decode cX6_isTwo 22 = .ok (.aload_n 0, 1) := by decide +kernel
theorem dX6_isTwo_23 : decode cX6_isTwo 23 = .ok (.getfield 83, 3) := by decide +kernel
theorem dX6_isTwo_26 : decode cX6_isTwo 26 = .ok (.invokevirtual 86, 3) := by decide +kernel
theorem dX6_isTwo_29 : decode cX6_isTwo 29 = .ok (.iload_n 1, 1) := by decide +kernel
theorem dX6_isTwo_30 : decode cX6_isTwo 30 = .ok (.if_icmp .ne 21, 3) := by decide +kernel
theorem dX6_isTwo_33 : decode cX6_isTwo 33 = .ok (.aload_n 0, 1) := by decide +kernel
theorem dX6_isTwo_34 : decode cX6_isTwo 34 = .ok (.aload_n 0, 1) := by decide +kernel
theorem dX6_isTwo_35 : decode cX6_isTwo 35 = .ok (.getfield 83, 3) := by decide +kernel
theorem dX6_isTwo_38 : decode cX6_isTwo 38 = .ok (.iconst 1, 1) := by decide +kernel
theorem dX6_isTwo_39 : decode cX6_isTwo 39 = .ok (.iadd, 1) := by decide +kernel
theorem dX6_isTwo_40 : decode cX6_isTwo 40 = .ok (.invokevirtual 86, 3) := by decide +kernel
theorem dX6_isTwo_43 : decode cX6_isTwo 43 = .ok (.iload_n 2, 1) := by decide +kernel
theorem dX6_isTwo_44 : decode cX6_isTwo 44 = .ok (.if_icmp .ne 7, 3) := by decide +kernel
theorem dX6_isTwo_47 : decode cX6_isTwo 47 = .ok (.iconst 1, 1) := by decide +kernel
theorem dX6_isTwo_48 : decode cX6_isTwo 48 = .ok (.goto 4, 3) := by decide +kernel
theorem dX6_isTwo_51 : decode cX6_isTwo 51 = .ok (.iconst 0, 1) := by decide +kernel
theorem dX6_isTwo_52 : decode cX6_isTwo 52 = .ok (.ireturn, 1) := by decide +kernel
theorem dX6_airHere_0 : decode cX6_airHere 0 = .ok (.bipush 24, 2) := by decide +kernel
theorem dX6_airHere_2 : decode cX6_airHere 2 = .ok (.iconst 4, 1) := by decide +kernel
theorem dX6_airHere_3 : decode cX6_airHere 3 = .ok (.aload_n 0, 1) := by decide +kernel
theorem dX6_airHere_4 : decode cX6_airHere 4 = .ok (.getfield 7, 3) := by decide +kernel
theorem dX6_airHere_7 : decode cX6_airHere 7 = .ok (.iconst 0, 1) := by decide +kernel
theorem dX6_airHere_8 : decode cX6_airHere 8 = .ok (.iaload, 1) := by decide +kernel
theorem dX6_airHere_9 : decode cX6_airHere 9 = .ok (.imul, 1) := by decide +kernel
theorem dX6_airHere_10 : decode cX6_airHere 10 = .ok (.iadd, 1) := by decide +kernel
theorem dX6_airHere_11 : decode cX6_airHere 11 = .ok (.istore_n 2, 1) := by decide +kernel
theorem dX6_airHere_12 : decode cX6_airHere 12 = .ok (.aload_n 0, 1) := by decide +kernel
theorem dX6_airHere_13 : decode cX6_airHere 13 = .ok (.aload_n 0, 1) := by decide +kernel
theorem dX6_airHere_14 : decode cX6_airHere 14 = .ok (.getfield 7, 3) := by decide +kernel
theorem dX6_airHere_17 : decode cX6_airHere 17 = .ok (.iconst 0, 1) := by decide +kernel
theorem dX6_airHere_18 : decode cX6_airHere 18 = .ok (.iaload, 1) := by decide +kernel
theorem dX6_airHere_19 : decode cX6_airHere 19 = .ok (.bipush 8, 2) := by decide +kernel
theorem dX6_airHere_21 : decode cX6_airHere 21 = .ok (.if_icmp .ge 7, 3) := by decide +kernel
theorem dX6_airHere_24 : decode cX6_airHere 24 = .ok (.iconst 1, 1) := by decide +kernel
theorem dX6_airHere_25 : decode cX6_airHere 25 = .ok (.goto 4, 3) := by decide +kernel
theorem dX6_airHere_28 : decode cX6_airHere 28 = .ok (.iconst 0, 1) := by decide +kernel
theorem dX6_airHere_29 : decode cX6_airHere 29 = .ok (.invokevirtual 121, 3) := by decide +kernel
theorem dX6_airHere_32 : decode cX6_airHere 32 = .ok (.aload_n 0, 1) := by decide +kernel
theorem dX6_airHere_33 : decode cX6_airHere 33 = .ok (.aload_n 0, 1) := by decide +kernel
theorem dX6_airHere_34 : decode cX6_airHere 34 = .ok (.bipush 97, 2) := by decide +kernel
theorem dX6_airHere_36 : decode cX6_airHere 36 = .ok (.bipush 116, 2) := by decide +kernel
theorem dX6_airHere_38 : decode cX6_airHere 38 = .ok (.invokevirtual 129, 3) := by decide +kernel
theorem dX6_airHere_41 : decode cX6_airHere 41 = .ok (.invokevirtual 121, 3) := by decide +kernel
theorem dX6_airHere_44 : decode cX6_airHere 44 = .ok (.aload_n 0, 1) := by decide +kernel
theorem dX6_airHere_45 : decode cX6_airHere 45 = .ok (.getfield 103, 3) := by decide +kernel
theorem dX6_airHere_48 : decode cX6_airHere 48 = .ok (.ifCond .ne 11, 3) := by decide +kernel
theorem dX6_airHere_51 : decode cX6_airHere 51 = .ok (.aload_n 0, 1) := by decide +kernel
theorem dX6_airHere_52 : decode cX6_airHere 52 = .ok (.iload_n 1, 1) := by decide +kernel
theorem dX6_airHere_53 : decode cX6_airHere 53 = .ok (.iconst 3, 1) := by decide +kernel
theorem dX6_airHere_54 : decode cX6_airHere 54 = .ok (.iconst 0, 1) := by decide +kernel
theorem dX6_airHere_55 : decode cX6_airHere 55 = .ok (.iconst 0, 1) := by decide +kernel
theorem dX6_airHere_56 : decode cX6_airHere 56 = .ok (.invokevirtual 133, 3) := by decide +kernel
theorem dX6_airHere_59 : decode cX6_airHere 59 = .ok (.aload_n 0, 1) := by decide +kernel
theorem dX6_airHere_60 : decode cX6_airHere 60 = .ok (.aload_n 0, 1) := by decide +kernel
theorem dX6_airHere_61 : decode cX6_airHere 61 = .ok (.getfield 103, 3) := by decide +kernel
theorem dX6_airHere_64 : decode cX6_airHere 64 = .ok (.ifCond .eq 7, 3) := by decide +kernel
theorem dX6_airHere_67 : decode cX6_airHere 67 = .ok (.iconst 0, 1) := by decide +kernel
theorem dX6_airHere_68 : decode cX6_airHere 68 = .ok (.goto 6, 3) := by decide +kernel
theorem dX6_airHere_71 : decode cX6_airHere 71 = .ok (.iload_n 2, 1) := by decide +kernel
theorem dX6_airHere_72 : decode cX6_airHere 72 = .ok (.iconst 3, 1) := by decide +kernel
theorem dX6_airHere_73 : decode cX6_airHere 73 = .ok (.iadd, 1) := by decide +kernel
theorem dX6_airHere_74 : decode cX6_airHere 74 = .ok (.iconst 0, 1) := by decide +kernel
theorem dX6_airHere_75 : decode cX6_airHere 75 = .ok (.bipush 15, 2) := by decide +kernel
theorem dX6_airHere_77 : decode cX6_airHere 77 = .ok (.invokevirtual 125, 3) := by decide +kernel
theorem dX6_airHere_80 : decode cX6_airHere 80 = .ok (.aload_n 0, 1) := by decide +kernel
theorem dX6_airHere_81 : decode cX6_airHere 81 = .ok (.aload_n 0, 1) := by decide +kernel
theorem dX6_airHere_82 : decode cX6_airHere 82 = .ok (.bipush 102, 2) := by decide +kernel
theorem dX6_airHere_84 : decode cX6_airHere 84 = .ok (.bipush 111, 2) := by decide +kernel
theorem dX6_airHere_86 : decode cX6_airHere 86 = .ok (.bipush 114, 2) := by decide +kernel
theorem dX6_airHere_88 : decode cX6_airHere 88 = .ok (.bipush 99, 2) := by decide +kernel
theorem dX6_airHere_90 : decode cX6_airHere 90 = .ok (.bipush 101, 2) := by decide +kernel
theorem dX6_airHere_92 : decode cX6_airHere 92 = .ok (.invokevirtual 137, 3) := by decide +kernel
theorem dX6_airHere_95 : decode cX6_airHere 95 = .ok (.iload_n 2, 1) := by decide +kernel
theorem dX6_airHere_96 : decode cX6_airHere 96 = .ok (.iconst 1, 1) := by decide +kernel
theorem dX6_airHere_97 : decode cX6_airHere 97 = .ok (.iadd, 1) := by decide +kernel
theorem dX6_airHere_98 : decode cX6_airHere 98 = .ok (.bipush 9, 2) := by decide +kernel
theorem dX6_airHere_100 : decode cX6_airHere 100 = .ok (.invokevirtual 140, 3) := by decide +kernel
theorem dX6_airHere_103 : decode cX6_airHere 103 = .ok (.aload_n 0, 1) := by decide +kernel
theorem dX6_airHere_104 : decode cX6_airHere 104 = .ok (.aload_n 0, 1) := by decide +kernel
theorem dX6_airHere_105 : decode cX6_airHere 105 = .ok (.bipush 6, 2) := by decide +kernel
theorem dX6_airHere_107 : decode cX6_airHere 107 = .ok (.bipush 101, 2) := by decide +kernel
theorem dX6_airHere_109 : decode cX6_airHere 109 = .ok (.bipush 114, 2) := by decide +kernel
theorem dX6_airHere_111 : decode cX6_airHere 111 = .ok (.bipush 114, 2) := by decide +kernel
theorem dX6_airHere_113 : decode cX6_airHere 113 = .ok (.bipush 100, 2) := by decide +kernel
theorem dX6_airHere_115 : decode cX6_airHere 115 = .ok (.invokevirtual 110, 3) := by decide +kernel
theorem dX6_airHere_118 : decode cX6_airHere 118 = .ok (.ifCond .eq 21, 3) := by decide +kernel
theorem dX6_airHere_121 : decode cX6_airHere 121 = .ok (.aload_n 0, 1) := by decide +kernel
theorem dX6_airHere_122 : decode cX6_airHere 122 = .ok (.iconst 2, 1) := by decide +kernel
theorem dX6_airHere_123 : decode cX6_airHere 123 = .ok (.bipush 114, 2) := by decide +kernel
theorem dX6_airHere_125 : decode cX6_airHere 125 = .ok (.bipush 97, 2) := by decide +kernel
theorem dX6_airHere_127 : decode cX6_airHere 127 = .ok (.bipush 110, 2) := by decide +kernel
theorem dX6_airHere_129 : decode cX6_airHere 129 = .ok (.invokevirtual 118, 3) := by decide +kernel
theorem dX6_airHere_132 : decode cX6_airHere 132 = .ok (.ifCond .eq 7, 3) := by decide +kernel
theorem dX6_airHere_135 : decode cX6_airHere 135 = .ok (.iconst 1, 1) := by decide +kernel
theorem dX6_airHere_136 : decode cX6_airHere 136 = .ok (.goto 4, 3) := by decide +kernel
theorem dX6_airHere_139 : decode cX6_airHere 139 = .ok (.iconst 0, 1) := by decide +kernel
theorem dX6_airHere_140 : decode cX6_airHere 140 = .ok (.iload_n 2, 1) := by decide +kernel
theorem dX6_airHere_141 : decode cX6_airHere 141 = .ok (.iconst 2, 1) := by decide +kernel
theorem dX6_airHere_142 : decode cX6_airHere 142 = .ok (.iadd, 1) := by decide +kernel
theorem dX6_airHere_143 : decode cX6_airHere 143 = .ok (.bipush 15, 2) := by decide +kernel
theorem dX6_airHere_145 : decode cX6_airHere 145 = .ok (.invokevirtual 140, 3) := by decide +kernel
theorem dX6_airHere_148 : decode cX6_airHere 148 = .ok (.return_, 1) := by decide +kernel
theorem dX6_wetHere_0 : decode cX6_wetHere 0 = .ok (.aload_n 0, 1) := by decide +kernel
theorem dX6_wetHere_1 : decode cX6_wetHere 1 = .ok (.invokevirtual 107, 3) := by decide +kernel
theorem dX6_wetHere_4 : decode cX6_wetHere 4 = .ok (.aload_n 0, 1) := by decide +kernel
theorem dX6_wetHere_5 : decode cX6_wetHere 5 = .ok (.getfield 100, 3) := by decide +kernel
theorem dX6_wetHere_8 : decode cX6_wetHere 8 = .ok (.istore_n 1, 1) := by decide +kernel
theorem dX6_wetHere_9 : decode cX6_wetHere 9 = .ok (.aload_n 0, 1) := by decide +kernel
theorem dX6_wetHere_10 : decode cX6_wetHere 10 = .ok (.aload_n 0, 1) := by decide +kernel
theorem dX6_wetHere_11 : decode cX6_wetHere 11 = .ok (.getfield 97, 3) := by decide +kernel
theorem dX6_wetHere_14 : decode cX6_wetHere 14 = .ok (.iconst 2, 1) := by decide +kernel
theorem dX6_wetHere_15 : decode cX6_wetHere 15 = .ok (.if_icmp .ne 29, 3) := by decide +kernel
theorem dX6_wetHere_18 : decode cX6_wetHere 18 = .ok (.aload_n 0, 1) := by decide +kernel
theorem dX6_wetHere_19 : decode cX6_wetHere 19 = .ok (.getfield 80, 3) := by decide +kernel
theorem dX6_wetHere_22 : decode cX6_wetHere 22 = .ok (.aload_n 0, 1) := by decide +kernel
theorem dX6_wetHere_23 : decode cX6_wetHere 23 = .ok (.getfield 83, 3) := by decide +kernel
theorem dX6_wetHere_26 : decode cX6_wetHere 26 = .ok (.isub, 1) := by decide +kernel
theorem dX6_wetHere_27 : decode cX6_wetHere 27 = .ok (.iconst 3, 1) := by decide +kernel
theorem dX6_wetHere_28 : decode cX6_wetHere 28 = .ok (.if_icmp .gt 16, 3) := by decide +kernel
theorem dX6_wetHere_31 : decode cX6_wetHere 31 = .ok (.aload_n 0, 1) := by decide +kernel
theorem dX6_wetHere_32 : decode cX6_wetHere 32 = .ok (.getfield 100, 3) := by decide +kernel
theorem dX6_wetHere_35 : decode cX6_wetHere 35 = .ok (.bipush 16, 2) := by decide +kernel
theorem dX6_wetHere_37 : decode cX6_wetHere 37 = .ok (.if_icmp .ge 7, 3) := by decide +kernel
theorem dX6_wetHere_40 : decode cX6_wetHere 40 = .ok (.iconst 1, 1) := by decide +kernel
theorem dX6_wetHere_41 : decode cX6_wetHere 41 = .ok (.goto 4, 3) := by decide +kernel
theorem dX6_wetHere_44 : decode cX6_wetHere 44 = .ok (.iconst 0, 1) := by decide +kernel
theorem dX6_wetHere_45 : decode cX6_wetHere 45 = .ok (.invokevirtual 121, 3) := by decide +kernel
theorem dX6_wetHere_48 : decode cX6_wetHere 48 = .ok (.aload_n 0, 1) := by decide +kernel
theorem dX6_wetHere_49 : decode cX6_wetHere 49 = .ok (.aload_n 0, 1) := by decide +kernel
theorem dX6_wetHere_50 : decode cX6_wetHere 50 = .ok (.bipush 105, 2) := by decide +kernel
theorem dX6_wetHere_52 : decode cX6_wetHere 52 = .ok (.bipush 115, 2) := by decide +kernel
theorem dX6_wetHere_54 : decode cX6_wetHere 54 = .ok (.invokevirtual 129, 3) := by decide +kernel
theorem dX6_wetHere_57 : decode cX6_wetHere 57 = .ok (.invokevirtual 121, 3) := by decide +kernel
theorem dX6_wetHere_60 : decode cX6_wetHere 60 = .ok (.aload_n 0, 1) := by decide +kernel
theorem dX6_wetHere_61 : decode cX6_wetHere 61 = .ok (.aload_n 0, 1) := by decide +kernel
theorem dX6_wetHere_62 : decode cX6_wetHere 62 = .ok (.getfield 103, 3) := by decide +kernel
theorem dX6_wetHere_65 : decode cX6_wetHere 65 = .ok (.ifCond .eq 7, 3) := by decide +kernel
theorem dX6_wetHere_68 : decode cX6_wetHere 68 = .ok (.iconst 0, 1) := by decide +kernel
theorem dX6_wetHere_69 : decode cX6_wetHere 69 = .ok (.goto 7, 3) := by decide +kernel
theorem dX6_wetHere_72 : decode cX6_wetHere 72 = .ok (.bipush 8, 2) := by decide +kernel
theorem dX6_wetHere_74 : decode cX6_wetHere 74 = .ok (.iload_n 1, 1) := by decide +kernel
theorem dX6_wetHere_75 : decode cX6_wetHere 75 = .ok (.iadd, 1) := by decide +kernel
theorem dX6_wetHere_76 : decode cX6_wetHere 76 = .ok (.iconst 0, 1) := by decide +kernel
theorem dX6_wetHere_77 : decode cX6_wetHere 77 = .ok (.bipush 99, 2) := by decide +kernel
theorem dX6_wetHere_79 : decode cX6_wetHere 79 = .ok (.invokevirtual 125, 3) := by decide +kernel
theorem dX6_wetHere_82 : decode cX6_wetHere 82 = .ok (.return_, 1) := by decide +kernel
theorem dX6_ownHere_0 : decode cX6_ownHere 0 = .ok (.aload_n 0, 1) := by decide +kernel
theorem dX6_ownHere_1 : decode cX6_ownHere 1 = .ok (.bipush 119, 2) := by decide +kernel
theorem dX6_ownHere_3 : decode cX6_ownHere 3 = .ok (.bipush 105, 2) := by decide +kernel
theorem dX6_ownHere_5 : decode cX6_ownHere 5 = .ok (.bipush 110, 2) := by decide +kernel
theorem dX6_ownHere_7 : decode cX6_ownHere 7 = .ok (.bipush 100, 2) := by decide +kernel
theorem dX6_ownHere_9 : decode cX6_ownHere 9 = .ok (.invokevirtual 114, 3) := by decide +kernel
theorem dX6_ownHere_12 : decode cX6_ownHere 12 = .ok (.ifCond .eq 5, 3) := by decide +kernel
theorem dX6_ownHere_15 : decode cX6_ownHere 15 = .ok (.iconst 3, 1) := by decide +kernel
theorem dX6_ownHere_16 : decode cX6_ownHere 16 = .ok (.ireturn, 1) := by decide +kernel
theorem dX6_ownHere_17 : decode cX6_ownHere 17 = .ok (.aload_n 0, 1) := by decide +kernel
theorem dX6_ownHere_18 : decode cX6_ownHere 18 = .ok (.bipush 116, 2) := by decide +kernel
theorem dX6_ownHere_20 : decode cX6_ownHere 20 = .ok (.bipush 117, 2) := by decide +kernel
theorem dX6_ownHere_22 : decode cX6_ownHere 22 = .ok (.bipush 114, 2) := by decide +kernel
theorem dX6_ownHere_24 : decode cX6_ownHere 24 = .ok (.bipush 110, 2) := by decide +kernel
theorem dX6_ownHere_26 : decode cX6_ownHere 26 = .ok (.invokevirtual 114, 3) := by decide +kernel
theorem dX6_ownHere_29 : decode cX6_ownHere 29 = .ok (.ifCond .eq 5, 3) := by decide +kernel
theorem dX6_ownHere_32 : decode cX6_ownHere 32 = .ok (.iconst 4, 1) := by decide +kernel
theorem dX6_ownHere_33 : decode cX6_ownHere 33 = .ok (.ireturn, 1) := by decide +kernel
theorem dX6_ownHere_34 : decode cX6_ownHere 34 = .ok (.aload_n 0, 1) := by decide +kernel
theorem dX6_ownHere_35 : decode cX6_ownHere 35 = .ok (.bipush 100, 2) := by decide +kernel
theorem dX6_ownHere_37 : decode cX6_ownHere 37 = .ok (.bipush 97, 2) := by decide +kernel
theorem dX6_ownHere_39 : decode cX6_ownHere 39 = .ok (.bipush 109, 2) := by decide +kernel
theorem dX6_ownHere_41 : decode cX6_ownHere 41 = .ok (.bipush 112, 2) := by decide +kernel
theorem dX6_ownHere_43 : decode cX6_ownHere 43 = .ok (.invokevirtual 114, 3) := by decide +kernel
theorem dX6_ownHere_46 : decode cX6_ownHere 46 = .ok (.ifCond .eq 5, 3) := by decide +kernel
theorem dX6_ownHere_49 : decode cX6_ownHere 49 = .ok (.iconst 5, 1) := by decide +kernel
theorem dX6_ownHere_50 : decode cX6_ownHere 50 = .ok (.ireturn, 1) := by decide +kernel
theorem dX6_ownHere_51 : decode cX6_ownHere 51 = .ok (.aload_n 0, 1) := by decide +kernel
theorem dX6_ownHere_52 : decode cX6_ownHere 52 = .ok (.iconst 3, 1) := by decide +kernel
theorem dX6_ownHere_53 : decode cX6_ownHere 53 = .ok (.bipush 115, 2) := by decide +kernel
theorem dX6_ownHere_55 : decode cX6_ownHere 55 = .ok (.bipush 104, 2) := by decide +kernel
theorem dX6_ownHere_57 : decode cX6_ownHere 57 = .ok (.bipush 121, 2) := by decide +kernel
theorem dX6_ownHere_59 : decode cX6_ownHere 59 = .ok (.bipush 121, 2) := by decide +kernel
theorem dX6_ownHere_61 : decode cX6_ownHere 61 = .ok (.invokevirtual 110, 3) := by decide +kernel
theorem dX6_ownHere_64 : decode cX6_ownHere 64 = .ok (.ifCond .eq 6, 3) := by decide +kernel
theorem dX6_ownHere_67 : decode cX6_ownHere 67 = .ok (.bipush 6, 2) := by decide +kernel
theorem dX6_ownHere_69 : decode cX6_ownHere 69 = .ok (.ireturn, 1) := by decide +kernel
theorem dX6_ownHere_70 : decode cX6_ownHere 70 = .ok (.aload_n 0, 1) := by decide +kernel
theorem dX6_ownHere_71 : decode cX6_ownHere 71 = .ok (.bipush 103, 2) := by decide +kernel
theorem dX6_ownHere_73 : decode cX6_ownHere 73 = .ok (.bipush 117, 2) := by decide +kernel
theorem dX6_ownHere_75 : decode cX6_ownHere 75 = .ok (.bipush 115, 2) := by decide +kernel
theorem dX6_ownHere_77 : decode cX6_ownHere 77 = .ok (.bipush 116, 2) := by decide +kernel
theorem dX6_ownHere_79 : decode cX6_ownHere 79 = .ok (.invokevirtual 114, 3) := by decide +kernel
theorem dX6_ownHere_82 : decode cX6_ownHere 82 = .ok (.ifCond .eq 8, 3) := by decide +kernel
theorem dX6_ownHere_85 : decode cX6_ownHere 85 = .ok (.bipush 7, 2) := by decide +kernel
theorem dX6_ownHere_87 : decode cX6_ownHere 87 = .ok (.goto 4, 3) := by decide +kernel
theorem dX6_ownHere_90 : decode cX6_ownHere 90 = .ok (.iconst (-1), 1) := by decide +kernel
theorem dX6_ownHere_91 : decode cX6_ownHere 91 = .ok (.ireturn, 1) := by decide +kernel
theorem dX6_itemHere_0 : decode cX6_itemHere 0 = .ok (.aload_n 0, 1) := by decide +kernel
theorem dX6_itemHere_1 : decode cX6_itemHere 1 = .ok (.invokevirtual 144, 3) := by decide +kernel
theorem dX6_itemHere_4 : decode cX6_itemHere 4 = .ok (.istore_n 1, 1) := by decide +kernel
theorem dX6_itemHere_5 : decode cX6_itemHere 5 = .ok (.aload_n 0, 1) := by decide +kernel
theorem dX6_itemHere_6 : decode cX6_itemHere 6 = .ok (.invokevirtual 148, 3) := by decide +kernel
theorem dX6_itemHere_9 : decode cX6_itemHere 9 = .ok (.istore_n 2, 1) := by decide +kernel
theorem dX6_itemHere_10 : decode cX6_itemHere 10 = .ok (.iload_n 1, 1) := by decide +kernel
theorem dX6_itemHere_11 : decode cX6_itemHere 11 = .ok (.ifCond .lt 11, 3) := by decide +kernel
theorem dX6_itemHere_14 : decode cX6_itemHere 14 = .ok (.aload_n 0, 1) := by decide +kernel
theorem dX6_itemHere_15 : decode cX6_itemHere 15 = .ok (.iload_n 1, 1) := by decide +kernel
theorem dX6_itemHere_16 : decode cX6_itemHere 16 = .ok (.invokevirtual 151, 3) := by decide +kernel
theorem dX6_itemHere_19 : decode cX6_itemHere 19 = .ok (.goto 84, 3) := by decide +kernel
theorem dX6_itemHere_22 : decode cX6_itemHere 22 = .ok (.iload_n 2, 1) := by decide +kernel
theorem dX6_itemHere_23 : decode cX6_itemHere 23 = .ok (.ifCond .lt 52, 3) := by decide +kernel
theorem dX6_itemHere_26 : decode cX6_itemHere 26 = .ok (.aload_n 0, 1) := by decide +kernel
theorem dX6_itemHere_27 : decode cX6_itemHere 27 = .ok (.invokevirtual 107, 3) := by decide +kernel
theorem dX6_itemHere_30 : decode cX6_itemHere 30 = .ok (.aload_n 0, 1) := by decide +kernel
theorem dX6_itemHere_31 : decode cX6_itemHere 31 = .ok (.iload_n 2, 1) := by decide +kernel
theorem dX6_itemHere_32 : decode cX6_itemHere 32 = .ok (.iload_n 2, 1) := by decide +kernel
theorem dX6_itemHere_33 : decode cX6_itemHere 33 = .ok (.iconst 4, 1) := by decide +kernel
theorem dX6_itemHere_34 : decode cX6_itemHere 34 = .ok (.if_icmp .ne 7, 3) := by decide +kernel
theorem dX6_itemHere_37 : decode cX6_itemHere 37 = .ok (.iconst 1, 1) := by decide +kernel
theorem dX6_itemHere_38 : decode cX6_itemHere 38 = .ok (.goto 4, 3) := by decide +kernel
theorem dX6_itemHere_41 : decode cX6_itemHere 41 = .ok (.iconst 0, 1) := by decide +kernel
theorem dX6_itemHere_42 : decode cX6_itemHere 42 = .ok (.iload_n 2, 1) := by decide +kernel
theorem dX6_itemHere_43 : decode cX6_itemHere 43 = .ok (.iconst 3, 1) := by decide +kernel
theorem dX6_itemHere_44 : decode cX6_itemHere 44 = .ok (.if_icmp .ne 7, 3) := by decide +kernel
theorem dX6_itemHere_47 : decode cX6_itemHere 47 = .ok (.iconst 3, 1) := by decide +kernel
theorem dX6_itemHere_48 : decode cX6_itemHere 48 = .ok (.goto 21, 3) := by decide +kernel
theorem dX6_itemHere_51 : decode cX6_itemHere 51 = .ok (.iload_n 2, 1) := by decide +kernel
theorem dX6_itemHere_52 : decode cX6_itemHere 52 = .ok (.iconst 5, 1) := by decide +kernel
theorem dX6_itemHere_53 : decode cX6_itemHere 53 = .ok (.if_icmp .eq 9, 3) := by decide +kernel
theorem dX6_itemHere_56 : decode cX6_itemHere 56 = .ok (.iload_n 2, 1) := by decide +kernel
theorem dX6_itemHere_57 : decode cX6_itemHere 57 = .ok (.bipush 7, 2) := by decide +kernel
theorem dX6_itemHere_59 : decode cX6_itemHere 59 = .ok (.if_icmp .ne 8, 3) := by decide +kernel
theorem dX6_itemHere_62 : decode cX6_itemHere 62 = .ok (.bipush 99, 2) := by decide +kernel
theorem dX6_itemHere_64 : decode cX6_itemHere 64 = .ok (.goto 5, 3) := by decide +kernel
theorem dX6_itemHere_67 : decode cX6_itemHere 67 = .ok (.bipush 9, 2) := by decide +kernel
theorem dX6_itemHere_69 : decode cX6_itemHere 69 = .ok (.invokevirtual 125, 3) := by decide +kernel
theorem dX6_itemHere_72 : decode cX6_itemHere 72 = .ok (.goto 31, 3) := by decide +kernel
theorem dX6_itemHere_75 : decode cX6_itemHere 75 = .ok (.aload_n 0, 1) := by decide +kernel
theorem dX6_itemHere_76 : decode cX6_itemHere 76 = .ok (.iconst 3, 1) := by decide +kernel
theorem dX6_itemHere_77 : decode cX6_itemHere 77 = .ok (.bipush 119, 2) := by decide +kernel
theorem dX6_itemHere_79 : decode cX6_itemHere 79 = .ok (.bipush 101, 2) := by decide +kernel
theorem dX6_itemHere_81 : decode cX6_itemHere 81 = .ok (.bipush 116, 2) := by decide +kernel
theorem dX6_itemHere_83 : decode cX6_itemHere 83 = .ok (.bipush 116, 2) := by decide +kernel
theorem dX6_itemHere_85 : decode cX6_itemHere 85 = .ok (.invokevirtual 110, 3) := by decide +kernel
theorem dX6_itemHere_88 : decode cX6_itemHere 88 = .ok (.ifCond .eq 10, 3) := by decide +kernel
theorem dX6_itemHere_91 : decode cX6_itemHere 91 = .ok (.aload_n 0, 1) := by decide +kernel
theorem dX6_itemHere_92 : decode cX6_itemHere 92 = .ok (.invokevirtual 155, 3) := by decide +kernel
theorem dX6_itemHere_95 : decode cX6_itemHere 95 = .ok (.goto 8, 3) := by decide +kernel
theorem dX6_itemHere_98 : decode cX6_itemHere 98 = .ok (.aload_n 0, 1) := by decide +kernel
theorem dX6_itemHere_99 : decode cX6_itemHere 99 = .ok (.iconst 0, 1) := by decide +kernel
theorem dX6_itemHere_100 : decode cX6_itemHere 100 = .ok (.invokevirtual 121, 3) := by decide +kernel
theorem dX6_itemHere_103 : decode cX6_itemHere 103 = .ok (.aload_n 0, 1) := by decide +kernel
theorem dX6_itemHere_104 : decode cX6_itemHere 104 = .ok (.aload_n 0, 1) := by decide +kernel
theorem dX6_itemHere_105 : decode cX6_itemHere 105 = .ok (.getfield 97, 3) := by decide +kernel
theorem dX6_itemHere_108 : decode cX6_itemHere 108 = .ok (.iconst 3, 1) := by decide +kernel
theorem dX6_itemHere_109 : decode cX6_itemHere 109 = .ok (.if_icmp .ne 20, 3) := by decide +kernel
theorem dX6_itemHere_112 : decode cX6_itemHere 112 = .ok (.aload_n 0, 1) := by decide +kernel
theorem dX6_itemHere_113 : decode cX6_itemHere 113 = .ok (.aload_n 0, 1) := by decide +kernel
theorem dX6_itemHere_114 : decode cX6_itemHere 114 = .ok (.getfield 83, 3) := by decide +kernel
theorem dX6_itemHere_117 : decode cX6_itemHere 117 = .ok (.invokevirtual 86, 3) := by decide +kernel
theorem dX6_itemHere_120 : decode cX6_itemHere 120 = .ok (.bipush 59, 2) := by decide +kernel
theorem dX6_itemHere_122 : decode cX6_itemHere 122 = .ok (.if_icmp .ne 7, 3) := by decide +kernel
theorem dX6_itemHere_125 : decode cX6_itemHere 125 = .ok (.iconst 1, 1) := by decide +kernel
theorem dX6_itemHere_126 : decode cX6_itemHere 126 = .ok (.goto 4, 3) := by decide +kernel
theorem dX6_itemHere_129 : decode cX6_itemHere 129 = .ok (.iconst 0, 1) := by decide +kernel
theorem dX6_itemHere_130 : decode cX6_itemHere 130 = .ok (.invokevirtual 121, 3) := by decide +kernel
theorem dX6_itemHere_133 : decode cX6_itemHere 133 = .ok (.return_, 1) := by decide +kernel
theorem dX6_city_0 : decode cX6_city 0 = .ok (.aload_n 0, 1) := by decide +kernel
theorem dX6_city_1 : decode cX6_city 1 = .ok (.getfield 7, 3) := by decide +kernel
theorem dX6_city_4 : decode cX6_city 4 = .ok (.aload_n 0, 1) := by decide +kernel
theorem dX6_city_5 : decode cX6_city 5 = .ok (.getfield 19, 3) := by decide +kernel
theorem dX6_city_8 : decode cX6_city 8 = .ok (.invokestatic 158, 3) := by decide +kernel
theorem dX6_city_11 : decode cX6_city 11 = .ok (.aload_n 0, 1) := by decide +kernel
theorem dX6_city_12 : decode cX6_city 12 = .ok (.invokevirtual 61, 3) := by decide +kernel
theorem dX6_city_15 : decode cX6_city 15 = .ok (.aload_n 0, 1) := by decide +kernel
theorem dX6_city_16 : decode cX6_city 16 = .ok (.iconst 0, 1) := by decide +kernel
theorem dX6_city_17 : decode cX6_city 17 = .ok (.putfield 80, 3) := by decide +kernel
theorem dX6_city_20 : decode cX6_city 20 = .ok (.aload_n 0, 1) := by decide +kernel
theorem dX6_city_21 : decode cX6_city 21 = .ok (.iconst 0, 1) := by decide +kernel
theorem dX6_city_22 : decode cX6_city 22 = .ok (.putfield 103, 3) := by decide +kernel
theorem dX6_city_25 : decode cX6_city 25 = .ok (.aload_n 0, 1) := by decide +kernel
theorem dX6_city_26 : decode cX6_city 26 = .ok (.invokevirtual 107, 3) := by decide +kernel
theorem dX6_city_29 : decode cX6_city 29 = .ok (.aload_n 0, 1) := by decide +kernel
theorem dX6_city_30 : decode cX6_city 30 = .ok (.getfield 103, 3) := by decide +kernel
theorem dX6_city_33 : decode cX6_city 33 = .ok (.ifCond .ne 17, 3) := by decide +kernel
theorem dX6_city_36 : decode cX6_city 36 = .ok (.aload_n 0, 1) := by decide +kernel
theorem dX6_city_37 : decode cX6_city 37 = .ok (.getfield 97, 3) := by decide +kernel
theorem dX6_city_40 : decode cX6_city 40 = .ok (.ifCond .eq 10, 3) := by decide +kernel
theorem dX6_city_43 : decode cX6_city 43 = .ok (.aload_n 0, 1) := by decide +kernel
theorem dX6_city_44 : decode cX6_city 44 = .ok (.invokevirtual 162, 3) := by decide +kernel
theorem dX6_city_47 : decode cX6_city 47 = .ok (.goto (-18), 3) := by decide +kernel
theorem dX6_city_50 : decode cX6_city 50 = .ok (.aload_n 0, 1) := by decide +kernel
theorem dX6_city_51 : decode cX6_city 51 = .ok (.iconst 0, 1) := by decide +kernel
theorem dX6_city_52 : decode cX6_city 52 = .ok (.putfield 74, 3) := by decide +kernel
theorem dX6_city_55 : decode cX6_city 55 = .ok (.aload_n 0, 1) := by decide +kernel
theorem dX6_city_56 : decode cX6_city 56 = .ok (.getfield 103, 3) := by decide +kernel
theorem dX6_city_59 : decode cX6_city 59 = .ok (.ifCond .eq 22, 3) := by decide +kernel
theorem dX6_city_62 : decode cX6_city 62 = .ok (.aload_n 0, 1) := by decide +kernel
theorem dX6_city_63 : decode cX6_city 63 = .ok (.getfield 19, 3) := by decide +kernel
theorem dX6_city_66 : decode cX6_city 66 = .ok (.aload_n 0, 1) := by decide +kernel
theorem dX6_city_67 : decode cX6_city 67 = .ok (.getfield 7, 3) := by decide +kernel
theorem dX6_city_70 : decode cX6_city 70 = .ok (.invokestatic 158, 3) := by decide +kernel
theorem dX6_city_73 : decode cX6_city 73 = .ok (.bipush (-100), 2) := by decide +kernel
theorem dX6_city_75 : decode cX6_city 75 = .ok (.aload_n 0, 1) := by decide +kernel
theorem dX6_city_76 : decode cX6_city 76 = .ok (.getfield 83, 3) := by decide +kernel
theorem dX6_city_79 : decode cX6_city 79 = .ok (.isub, 1) := by decide +kernel
theorem dX6_city_80 : decode cX6_city 80 = .ok (.ireturn, 1) := by decide +kernel
theorem dX6_city_81 : decode cX6_city 81 = .ok (.aload_n 0, 1) := by decide +kernel
theorem dX6_city_82 : decode cX6_city 82 = .ok (.iconst 0, 1) := by decide +kernel
theorem dX6_city_83 : decode cX6_city 83 = .ok (.putfield 165, 3) := by decide +kernel
theorem dX6_city_86 : decode cX6_city 86 = .ok (.aload_n 0, 1) := by decide +kernel
theorem dX6_city_87 : decode cX6_city 87 = .ok (.getfield 7, 3) := by decide +kernel
theorem dX6_city_90 : decode cX6_city 90 = .ok (.iconst 0, 1) := by decide +kernel
theorem dX6_city_91 : decode cX6_city 91 = .ok (.iaload, 1) := by decide +kernel
theorem dX6_city_92 : decode cX6_city 92 = .ok (.ireturn, 1) := by decide +kernel
theorem dX6_set_0 : decode cX6_set 0 = .ok (.iload_n 1, 1) := by decide +kernel
theorem dX6_set_1 : decode cX6_set 1 = .ok (.i2l, 1) := by decide +kernel
theorem dX6_set_2 : decode cX6_set 2 = .ok (.lconst 0, 1) := by decide +kernel
theorem dX6_set_3 : decode cX6_set 3 = .ok (.ldc2_w 168, 3) := by decide +kernel
theorem dX6_set_6 : decode cX6_set 6 = .ok (.invokestatic 70, 3) := by decide +kernel
theorem dX6_set_9 : decode cX6_set 9 = .ok (.ifCond .eq 43, 3) := by decide +kernel
theorem dX6_set_12 : decode cX6_set 12 = .ok (.iload_n 2, 1) := by decide +kernel
theorem dX6_set_13 : decode cX6_set 13 = .ok (.i2l, 1) := by decide +kernel
theorem dX6_set_14 : decode cX6_set 14 = .ok (.iload_n 1, 1) := by decide +kernel
theorem dX6_set_15 : decode cX6_set 15 = .ok (.ifCond .ne 7, 3) := by decide +kernel
theorem dX6_set_18 : decode cX6_set 18 = .ok (.lconst 1, 1) := by decide +kernel
theorem dX6_set_19 : decode cX6_set 19 = .ok (.goto 4, 3) := by decide +kernel
theorem dX6_set_22 : decode cX6_set 22 = .ok (.lconst 0, 1) := by decide +kernel
theorem dX6_set_23 : decode cX6_set 23 = .ok (.iload_n 1, 1) := by decide +kernel
theorem dX6_set_24 : decode cX6_set 24 = .ok (.iconst 1, 1) := by decide +kernel
theorem dX6_set_25 : decode cX6_set 25 = .ok (.if_icmp .eq 8, 3) := by decide +kernel
theorem dX6_set_28 : decode cX6_set 28 = .ok (.iload_n 1, 1) := by decide +kernel
theorem dX6_set_29 : decode cX6_set 29 = .ok (.iconst 3, 1) := by decide +kernel
theorem dX6_set_30 : decode cX6_set 30 = .ok (.if_icmp .ne 9, 3) := by decide +kernel
theorem dX6_set_33 : decode cX6_set 33 = .ok (.ldc2_w 170, 3) := by decide +kernel
theorem dX6_set_36 : decode cX6_set 36 = .ok (.goto 6, 3) := by decide +kernel
theorem dX6_set_39 : decode cX6_set 39 = .ok (.ldc2_w 172, 3) := by decide +kernel
theorem dX6_set_42 : decode cX6_set 42 = .ok (.invokestatic 70, 3) := by decide +kernel
theorem dX6_set_45 : decode cX6_set 45 = .ok (.ifCond .eq 7, 3) := by decide +kernel
theorem dX6_set_48 : decode cX6_set 48 = .ok (.iconst 1, 1) := by decide +kernel
theorem dX6_set_49 : decode cX6_set 49 = .ok (.goto 4, 3) := by decide +kernel
theorem dX6_set_52 : decode cX6_set 52 = .ok (.iconst 0, 1) := by decide +kernel
theorem dX6_set_53 : decode cX6_set 53 = .ok (.istore_n 3, 1) := by decide +kernel
theorem dX6_set_54 : decode cX6_set 54 = .ok (.iload_n 3, 1) := by decide +kernel
theorem dX6_set_55 : decode cX6_set 55 = .ok (.ifCond .eq 14, 3) := by decide +kernel
theorem dX6_set_58 : decode cX6_set 58 = .ok (.aload_n 0, 1) := by decide +kernel
theorem dX6_set_59 : decode cX6_set 59 = .ok (.iconst 4, 1) := by decide +kernel
theorem dX6_set_60 : decode cX6_set 60 = .ok (.iload_n 1, 1) := by decide +kernel
theorem dX6_set_61 : decode cX6_set 61 = .ok (.iadd, 1) := by decide +kernel
theorem dX6_set_62 : decode cX6_set 62 = .ok (.iload_n 2, 1) := by decide +kernel
theorem dX6_set_63 : decode cX6_set 63 = .ok (.invokevirtual 174, 3) := by decide +kernel
theorem dX6_set_66 : decode cX6_set 66 = .ok (.goto 4, 3) := by decide +kernel
theorem dX6_set_69 : decode cX6_set 69 = .ok (.iconst (-1), 1) := by decide +kernel
theorem dX6_set_70 : decode cX6_set 70 = .ok (.ireturn, 1) := by decide +kernel
theorem dX6_lawOf_0 : decode cX6_lawOf 0 = .ok (.iload_n 1, 1) := by decide +kernel
theorem dX6_lawOf_1 : decode cX6_lawOf 1 = .ok (.i2l, 1) := by decide +kernel
theorem dX6_lawOf_2 : decode cX6_lawOf 2 = .ok (.lconst 0, 1) := by decide +kernel
theorem dX6_lawOf_3 : decode cX6_lawOf 3 = .ok (.ldc2_w 168, 3) := by decide +kernel
theorem dX6_lawOf_6 : decode cX6_lawOf 6 = .ok (.invokestatic 70, 3) := by decide +kernel
theorem dX6_lawOf_9 : decode cX6_lawOf 9 = .ok (.ifCond .eq 14, 3) := by decide +kernel
theorem dX6_lawOf_12 : decode cX6_lawOf 12 = .ok (.aload_n 0, 1) := by decide +kernel
theorem dX6_lawOf_13 : decode cX6_lawOf 13 = .ok (.getfield 7, 3) := by decide +kernel
theorem dX6_lawOf_16 : decode cX6_lawOf 16 = .ok (.iconst 4, 1) := by decide +kernel
theorem dX6_lawOf_17 : decode cX6_lawOf 17 = .ok (.iload_n 1, 1) := by decide +kernel
theorem dX6_lawOf_18 : decode cX6_lawOf 18 = .ok (.iadd, 1) := by decide +kernel
theorem dX6_lawOf_19 : decode cX6_lawOf 19 = .ok (.iaload, 1) := by decide +kernel
theorem dX6_lawOf_20 : decode cX6_lawOf 20 = .ok (.goto 4, 3) := by decide +kernel
theorem dX6_lawOf_23 : decode cX6_lawOf 23 = .ok (.iconst (-1), 1) := by decide +kernel
theorem dX6_lawOf_24 : decode cX6_lawOf 24 = .ok (.ireturn, 1) := by decide +kernel
theorem dX6_comes_0 : decode cX6_comes 0 = .ok (.bipush 24, 2) := by decide +kernel
theorem dX6_comes_2 : decode cX6_comes 2 = .ok (.iconst 4, 1) := by decide +kernel
theorem dX6_comes_3 : decode cX6_comes 3 = .ok (.aload_n 0, 1) := by decide +kernel
theorem dX6_comes_4 : decode cX6_comes 4 = .ok (.getfield 7, 3) := by decide +kernel
theorem dX6_comes_7 : decode cX6_comes 7 = .ok (.iconst 0, 1) := by decide +kernel
theorem dX6_comes_8 : decode cX6_comes 8 = .ok (.iaload, 1) := by decide +kernel
theorem dX6_comes_9 : decode cX6_comes 9 = .ok (.imul, 1) := by decide +kernel
theorem dX6_comes_10 : decode cX6_comes 10 = .ok (.iadd, 1) := by decide +kernel
theorem dX6_comes_11 : decode cX6_comes 11 = .ok (.istore 5, 2) := by decide +kernel
theorem dX6_comes_13 : decode cX6_comes 13 = .ok (.aload_n 0, 1) := by decide +kernel
theorem dX6_comes_14 : decode cX6_comes 14 = .ok (.getfield 7, 3) := by decide +kernel
theorem dX6_comes_17 : decode cX6_comes 17 = .ok (.iload 5, 2) := by decide +kernel
theorem dX6_comes_19 : decode cX6_comes 19 = .ok (.iload_n 1, 1) := by decide +kernel
theorem dX6_comes_20 : decode cX6_comes 20 = .ok (.iastore, 1) := by decide +kernel
theorem dX6_comes_21 : decode cX6_comes 21 = .ok (.aload_n 0, 1) := by decide +kernel
theorem dX6_comes_22 : decode cX6_comes 22 = .ok (.getfield 7, 3) := by decide +kernel
theorem dX6_comes_25 : decode cX6_comes 25 = .ok (.iload 5, 2) := by decide +kernel
theorem dX6_comes_27 : decode cX6_comes 27 = .ok (.iconst 1, 1) := by decide +kernel
theorem dX6_comes_28 : decode cX6_comes 28 = .ok (.iadd, 1) := by decide +kernel
theorem dX6_comes_29 : decode cX6_comes 29 = .ok (.iload_n 2, 1) := by decide +kernel
theorem dX6_comes_30 : decode cX6_comes 30 = .ok (.iastore, 1) := by decide +kernel
theorem dX6_comes_31 : decode cX6_comes 31 = .ok (.aload_n 0, 1) := by decide +kernel
theorem dX6_comes_32 : decode cX6_comes 32 = .ok (.getfield 7, 3) := by decide +kernel
theorem dX6_comes_35 : decode cX6_comes 35 = .ok (.iload 5, 2) := by decide +kernel
theorem dX6_comes_37 : decode cX6_comes 37 = .ok (.iconst 2, 1) := by decide +kernel
theorem dX6_comes_38 : decode cX6_comes 38 = .ok (.iadd, 1) := by decide +kernel
theorem dX6_comes_39 : decode cX6_comes 39 = .ok (.iload_n 3, 1) := by decide +kernel
theorem dX6_comes_40 : decode cX6_comes 40 = .ok (.iastore, 1) := by decide +kernel
theorem dX6_comes_41 : decode cX6_comes 41 = .ok (.aload_n 0, 1) := by decide +kernel
theorem dX6_comes_42 : decode cX6_comes 42 = .ok (.getfield 7, 3) := by decide +kernel
theorem dX6_comes_45 : decode cX6_comes 45 = .ok (.iload 5, 2) := by decide +kernel
theorem dX6_comes_47 : decode cX6_comes 47 = .ok (.iconst 3, 1) := by decide +kernel
theorem dX6_comes_48 : decode cX6_comes 48 = .ok (.iadd, 1) := by decide +kernel
theorem dX6_comes_49 : decode cX6_comes 49 = .ok (.iload 4, 2) := by decide +kernel
theorem dX6_comes_51 : decode cX6_comes 51 = .ok (.iastore, 1) := by decide +kernel
theorem dX6_comes_52 : decode cX6_comes 52 = .ok (.aload_n 0, 1) := by decide +kernel
theorem dX6_comes_53 : decode cX6_comes 53 = .ok (.getfield 7, 3) := by decide +kernel
theorem dX6_comes_56 : decode cX6_comes 56 = .ok (.iconst 0, 1) := by decide +kernel
theorem dX6_comes_57 : decode cX6_comes 57 = .ok (.dup2, 1) := by decide +kernel
theorem dX6_comes_58 : decode cX6_comes 58 = .ok (.iaload, 1) := by decide +kernel
theorem dX6_comes_59 : decode cX6_comes 59 = .ok (.iconst 1, 1) := by decide +kernel
theorem dX6_comes_60 : decode cX6_comes 60 = .ok (.iadd, 1) := by decide +kernel
theorem dX6_comes_61 : decode cX6_comes 61 = .ok (.iastore, 1) := by decide +kernel
theorem dX6_comes_62 : decode cX6_comes 62 = .ok (.return_, 1) := by decide +kernel
theorem dX6_air_0 : decode cX6_air 0 = .ok (.iload_n 1, 1) := by decide +kernel
theorem dX6_air_1 : decode cX6_air 1 = .ok (.i2l, 1) := by decide +kernel
theorem dX6_air_2 : decode cX6_air 2 = .ok (.lconst 0, 1) := by decide +kernel
theorem dX6_air_3 : decode cX6_air 3 = .ok (.ldc2_w 177, 3) := by decide +kernel
theorem dX6_air_6 : decode cX6_air 6 = .ok (.invokestatic 70, 3) := by decide +kernel
theorem dX6_air_9 : decode cX6_air 9 = .ok (.ifCond .eq 30, 3) := by decide +kernel
theorem dX6_air_12 : decode cX6_air 12 = .ok (.iload_n 2, 1) := by decide +kernel
theorem dX6_air_13 : decode cX6_air 13 = .ok (.i2l, 1) := by decide +kernel
theorem dX6_air_14 : decode cX6_air 14 = .ok (.lconst 0, 1) := by decide +kernel
theorem dX6_air_15 : decode cX6_air 15 = .ok (.ldc2_w 172, 3) := by decide +kernel
theorem dX6_air_18 : decode cX6_air 18 = .ok (.invokestatic 70, 3) := by decide +kernel
theorem dX6_air_21 : decode cX6_air 21 = .ok (.ifCond .eq 18, 3) := by decide +kernel
theorem dX6_air_24 : decode cX6_air 24 = .ok (.iload_n 3, 1) := by decide +kernel
theorem dX6_air_25 : decode cX6_air 25 = .ok (.invokestatic 179, 3) := by decide +kernel
theorem dX6_air_28 : decode cX6_air 28 = .ok (.ifCond .eq 11, 3) := by decide +kernel
theorem dX6_air_31 : decode cX6_air 31 = .ok (.iload 4, 2) := by decide +kernel
theorem dX6_air_33 : decode cX6_air 33 = .ok (.invokestatic 179, 3) := by decide +kernel
theorem dX6_air_36 : decode cX6_air 36 = .ok (.ifCond .ne 5, 3) := by decide +kernel
theorem dX6_air_39 : decode cX6_air 39 = .ok (.iconst (-1), 1) := by decide +kernel
theorem dX6_air_40 : decode cX6_air 40 = .ok (.ireturn, 1) := by decide +kernel
theorem dX6_air_41 : decode cX6_air 41 = .ok (.aload_n 0, 1) := by decide +kernel
theorem dX6_air_42 : decode cX6_air 42 = .ok (.getfield 7, 3) := by decide +kernel
theorem dX6_air_45 : decode cX6_air 45 = .ok (.iconst 0, 1) := by decide +kernel
theorem dX6_air_46 : decode cX6_air 46 = .ok (.iaload, 1) := by decide +kernel
theorem dX6_air_47 : decode cX6_air 47 = .ok (.bipush 8, 2) := by decide +kernel
theorem dX6_air_49 : decode cX6_air 49 = .ok (.if_icmp .ne 6, 3) := by decide +kernel
theorem dX6_air_52 : decode cX6_air 52 = .ok (.bipush (-2), 2) := by decide +kernel
theorem dX6_air_54 : decode cX6_air 54 = .ok (.ireturn, 1) := by decide +kernel
theorem dX6_air_55 : decode cX6_air 55 = .ok (.aload_n 0, 1) := by decide +kernel
theorem dX6_air_56 : decode cX6_air 56 = .ok (.iload_n 1, 1) := by decide +kernel
theorem dX6_air_57 : decode cX6_air 57 = .ok (.iload_n 2, 1) := by decide +kernel
theorem dX6_air_58 : decode cX6_air 58 = .ok (.iload_n 3, 1) := by decide +kernel
theorem dX6_air_59 : decode cX6_air 59 = .ok (.iload 4, 2) := by decide +kernel
theorem dX6_air_61 : decode cX6_air 61 = .ok (.invokevirtual 133, 3) := by decide +kernel
theorem dX6_air_64 : decode cX6_air 64 = .ok (.aload_n 0, 1) := by decide +kernel
theorem dX6_air_65 : decode cX6_air 65 = .ok (.getfield 7, 3) := by decide +kernel
theorem dX6_air_68 : decode cX6_air 68 = .ok (.iconst 0, 1) := by decide +kernel
theorem dX6_air_69 : decode cX6_air 69 = .ok (.iaload, 1) := by decide +kernel
theorem dX6_air_70 : decode cX6_air 70 = .ok (.iconst 1, 1) := by decide +kernel
theorem dX6_air_71 : decode cX6_air 71 = .ok (.isub, 1) := by decide +kernel
theorem dX6_air_72 : decode cX6_air 72 = .ok (.ireturn, 1) := by decide +kernel
theorem dX6_nextBy_0 : decode cX6_nextBy 0 = .ok (.iload_n 0, 1) := by decide +kernel
theorem dX6_nextBy_1 : decode cX6_nextBy 1 = .ok (.iconst 4, 1) := by decide +kernel
theorem dX6_nextBy_2 : decode cX6_nextBy 2 = .ok (.irem, 1) := by decide +kernel
theorem dX6_nextBy_3 : decode cX6_nextBy 3 = .ok (.istore_n 2, 1) := by decide +kernel
theorem dX6_nextBy_4 : decode cX6_nextBy 4 = .ok (.iload_n 0, 1) := by decide +kernel
theorem dX6_nextBy_5 : decode cX6_nextBy 5 = .ok (.iconst 4, 1) := by decide +kernel
theorem dX6_nextBy_6 : decode cX6_nextBy 6 = .ok (.idiv, 1) := by decide +kernel
theorem dX6_nextBy_7 : decode cX6_nextBy 7 = .ok (.istore_n 3, 1) := by decide +kernel
theorem dX6_nextBy_8 : decode cX6_nextBy 8 = .ok (.iload_n 1, 1) := by decide +kernel
theorem dX6_nextBy_9 : decode cX6_nextBy 9 = .ok (.tableswitch 65 0 2 #[27, 40, 53], 27) := by decide +kernel
theorem dX6_nextBy_36 : decode cX6_nextBy 36 = .ok (.iload_n 2, 1) := by decide +kernel
theorem dX6_nextBy_37 : decode cX6_nextBy 37 = .ok (.iconst 3, 1) := by decide +kernel
theorem dX6_nextBy_38 : decode cX6_nextBy 38 = .ok (.if_icmp .ge 9, 3) := by decide +kernel
theorem dX6_nextBy_41 : decode cX6_nextBy 41 = .ok (.iload_n 0, 1) := by decide +kernel
theorem dX6_nextBy_42 : decode cX6_nextBy 42 = .ok (.iconst 1, 1) := by decide +kernel
theorem dX6_nextBy_43 : decode cX6_nextBy 43 = .ok (.iadd, 1) := by decide +kernel
theorem dX6_nextBy_44 : decode cX6_nextBy 44 = .ok (.goto 4, 3) := by decide +kernel
theorem dX6_nextBy_47 : decode cX6_nextBy 47 = .ok (.iconst (-1), 1) := by decide +kernel
theorem dX6_nextBy_48 : decode cX6_nextBy 48 = .ok (.ireturn, 1) := by decide +kernel
theorem dX6_nextBy_49 : decode cX6_nextBy 49 = .ok (.iload_n 3, 1) := by decide +kernel
theorem dX6_nextBy_50 : decode cX6_nextBy 50 = .ok (.iconst 3, 1) := by decide +kernel
theorem dX6_nextBy_51 : decode cX6_nextBy 51 = .ok (.if_icmp .ge 9, 3) := by decide +kernel
theorem dX6_nextBy_54 : decode cX6_nextBy 54 = .ok (.iload_n 0, 1) := by decide +kernel
theorem dX6_nextBy_55 : decode cX6_nextBy 55 = .ok (.iconst 4, 1) := by decide +kernel
theorem dX6_nextBy_56 : decode cX6_nextBy 56 = .ok (.iadd, 1) := by decide +kernel
theorem dX6_nextBy_57 : decode cX6_nextBy 57 = .ok (.goto 4, 3) := by decide +kernel
theorem dX6_nextBy_60 : decode cX6_nextBy 60 = .ok (.iconst (-1), 1) := by decide +kernel
theorem dX6_nextBy_61 : decode cX6_nextBy 61 = .ok (.ireturn, 1) := by decide +kernel
theorem dX6_nextBy_62 : decode cX6_nextBy 62 = .ok (.iload_n 2, 1) := by decide +kernel
theorem dX6_nextBy_63 : decode cX6_nextBy 63 = .ok (.ifCond .le 9, 3) := by decide +kernel
theorem dX6_nextBy_66 : decode cX6_nextBy 66 = .ok (.iload_n 0, 1) := by decide +kernel
theorem dX6_nextBy_67 : decode cX6_nextBy 67 = .ok (.iconst 1, 1) := by decide +kernel
theorem dX6_nextBy_68 : decode cX6_nextBy 68 = .ok (.isub, 1) := by decide +kernel
theorem dX6_nextBy_69 : decode cX6_nextBy 69 = .ok (.goto 4, 3) := by decide +kernel
theorem dX6_nextBy_72 : decode cX6_nextBy 72 = .ok (.iconst (-1), 1) := by decide +kernel
theorem dX6_nextBy_73 : decode cX6_nextBy 73 = .ok (.ireturn, 1) := by decide +kernel
theorem dX6_nextBy_74 : decode cX6_nextBy 74 = .ok (.iload_n 3, 1) := by decide +kernel
theorem dX6_nextBy_75 : decode cX6_nextBy 75 = .ok (.ifCond .le 9, 3) := by decide +kernel
theorem dX6_nextBy_78 : decode cX6_nextBy 78 = .ok (.iload_n 0, 1) := by decide +kernel
theorem dX6_nextBy_79 : decode cX6_nextBy 79 = .ok (.iconst 4, 1) := by decide +kernel
theorem dX6_nextBy_80 : decode cX6_nextBy 80 = .ok (.isub, 1) := by decide +kernel
theorem dX6_nextBy_81 : decode cX6_nextBy 81 = .ok (.goto 4, 3) := by decide +kernel
theorem dX6_nextBy_84 : decode cX6_nextBy 84 = .ok (.iconst (-1), 1) := by decide +kernel
theorem dX6_nextBy_85 : decode cX6_nextBy 85 = .ok (.ireturn, 1) := by decide +kernel
theorem dX6_towards_0 : decode cX6_towards 0 = .ok (.aload_n 0, 1) := by decide +kernel
theorem dX6_towards_1 : decode cX6_towards 1 = .ok (.iload_n 1, 1) := by decide +kernel
theorem dX6_towards_2 : decode cX6_towards 2 = .ok (.iconst 3, 1) := by decide +kernel
theorem dX6_towards_3 : decode cX6_towards 3 = .ok (.invokevirtual 182, 3) := by decide +kernel
theorem dX6_towards_6 : decode cX6_towards 6 = .ok (.iconst 4, 1) := by decide +kernel
theorem dX6_towards_7 : decode cX6_towards 7 = .ok (.irem, 1) := by decide +kernel
theorem dX6_towards_8 : decode cX6_towards 8 = .ok (.istore_n 2, 1) := by decide +kernel
theorem dX6_towards_9 : decode cX6_towards 9 = .ok (.aload_n 0, 1) := by decide +kernel
theorem dX6_towards_10 : decode cX6_towards 10 = .ok (.iload_n 1, 1) := by decide +kernel
theorem dX6_towards_11 : decode cX6_towards 11 = .ok (.iconst 3, 1) := by decide +kernel
theorem dX6_towards_12 : decode cX6_towards 12 = .ok (.invokevirtual 182, 3) := by decide +kernel
theorem dX6_towards_15 : decode cX6_towards 15 = .ok (.iconst 4, 1) := by decide +kernel
theorem dX6_towards_16 : decode cX6_towards 16 = .ok (.idiv, 1) := by decide +kernel
theorem dX6_towards_17 : decode cX6_towards 17 = .ok (.istore_n 3, 1) := by decide +kernel
theorem dX6_towards_18 : decode cX6_towards 18 = .ok (.aload_n 0, 1) := by decide +kernel
theorem dX6_towards_19 : decode cX6_towards 19 = .ok (.iload_n 1, 1) := by decide +kernel
theorem dX6_towards_20 : decode cX6_towards 20 = .ok (.iconst 2, 1) := by decide +kernel
theorem dX6_towards_21 : decode cX6_towards 21 = .ok (.invokevirtual 182, 3) := by decide +kernel
theorem dX6_towards_24 : decode cX6_towards 24 = .ok (.iconst 4, 1) := by decide +kernel
theorem dX6_towards_25 : decode cX6_towards 25 = .ok (.irem, 1) := by decide +kernel
theorem dX6_towards_26 : decode cX6_towards 26 = .ok (.istore 4, 2) := by decide +kernel
theorem dX6_towards_28 : decode cX6_towards 28 = .ok (.aload_n 0, 1) := by decide +kernel
theorem dX6_towards_29 : decode cX6_towards 29 = .ok (.iload_n 1, 1) := by decide +kernel
theorem dX6_towards_30 : decode cX6_towards 30 = .ok (.iconst 2, 1) := by decide +kernel
theorem dX6_towards_31 : decode cX6_towards 31 = .ok (.invokevirtual 182, 3) := by decide +kernel
theorem dX6_towards_34 : decode cX6_towards 34 = .ok (.iconst 4, 1) := by decide +kernel
theorem dX6_towards_35 : decode cX6_towards 35 = .ok (.idiv, 1) := by decide +kernel
theorem dX6_towards_36 : decode cX6_towards 36 = .ok (.istore 5, 2) := by decide +kernel
theorem dX6_towards_38 : decode cX6_towards 38 = .ok (.iload_n 2, 1) := by decide +kernel
theorem dX6_towards_39 : decode cX6_towards 39 = .ok (.iload 4, 2) := by decide +kernel
theorem dX6_towards_41 : decode cX6_towards 41 = .ok (.if_icmp .eq 15, 3) := by decide +kernel
theorem dX6_towards_44 : decode cX6_towards 44 = .ok (.iload_n 2, 1) := by decide +kernel
theorem dX6_towards_45 : decode cX6_towards 45 = .ok (.iload 4, 2) := by decide +kernel
theorem dX6_towards_47 : decode cX6_towards 47 = .ok (.if_icmp .ge 7, 3) := by decide +kernel
theorem dX6_towards_50 : decode cX6_towards 50 = .ok (.iconst 0, 1) := by decide +kernel
theorem dX6_towards_51 : decode cX6_towards 51 = .ok (.goto 4, 3) := by decide +kernel
theorem dX6_towards_54 : decode cX6_towards 54 = .ok (.iconst 2, 1) := by decide +kernel
theorem dX6_towards_55 : decode cX6_towards 55 = .ok (.ireturn, 1) := by decide +kernel
theorem dX6_towards_56 : decode cX6_towards 56 = .ok (.iload_n 3, 1) := by decide +kernel
theorem dX6_towards_57 : decode cX6_towards 57 = .ok (.iload 5, 2) := by decide +kernel
theorem dX6_towards_59 : decode cX6_towards 59 = .ok (.if_icmp .ne 7, 3) := by decide +kernel
theorem dX6_towards_62 : decode cX6_towards 62 = .ok (.iconst 4, 1) := by decide +kernel
theorem dX6_towards_63 : decode cX6_towards 63 = .ok (.goto 14, 3) := by decide +kernel
theorem dX6_towards_66 : decode cX6_towards 66 = .ok (.iload_n 3, 1) := by decide +kernel
theorem dX6_towards_67 : decode cX6_towards 67 = .ok (.iload 5, 2) := by decide +kernel
theorem dX6_towards_69 : decode cX6_towards 69 = .ok (.if_icmp .ge 7, 3) := by decide +kernel
theorem dX6_towards_72 : decode cX6_towards 72 = .ok (.iconst 1, 1) := by decide +kernel
theorem dX6_towards_73 : decode cX6_towards 73 = .ok (.goto 4, 3) := by decide +kernel
theorem dX6_towards_76 : decode cX6_towards 76 = .ok (.iconst 3, 1) := by decide +kernel
theorem dX6_towards_77 : decode cX6_towards 77 = .ok (.ireturn, 1) := by decide +kernel
theorem dX6_wayOf_0 : decode cX6_wayOf 0 = .ok (.iconst 4, 1) := by decide +kernel
theorem dX6_wayOf_1 : decode cX6_wayOf 1 = .ok (.istore_n 2, 1) := by decide +kernel
theorem dX6_wayOf_2 : decode cX6_wayOf 2 = .ok (.aload_n 0, 1) := by decide +kernel
theorem dX6_wayOf_3 : decode cX6_wayOf 3 = .ok (.iload_n 1, 1) := by decide +kernel
theorem dX6_wayOf_4 : decode cX6_wayOf 4 = .ok (.iconst 0, 1) := by decide +kernel
theorem dX6_wayOf_5 : decode cX6_wayOf 5 = .ok (.invokevirtual 182, 3) := by decide +kernel
theorem dX6_wayOf_8 : decode cX6_wayOf 8 = .ok (.tableswitch 132 1 5 #[36, 66, 91, 100, 129], 36) := by decide +kernel
theorem dX6_wayOf_44 : decode cX6_wayOf 44 = .ok (.aload_n 0, 1) := by decide +kernel
theorem dX6_wayOf_45 : decode cX6_wayOf 45 = .ok (.iload_n 1, 1) := by decide +kernel
theorem dX6_wayOf_46 : decode cX6_wayOf 46 = .ok (.iconst 1, 1) := by decide +kernel
theorem dX6_wayOf_47 : decode cX6_wayOf 47 = .ok (.invokevirtual 182, 3) := by decide +kernel
theorem dX6_wayOf_50 : decode cX6_wayOf 50 = .ok (.aload_n 0, 1) := by decide +kernel
theorem dX6_wayOf_51 : decode cX6_wayOf 51 = .ok (.getfield 7, 3) := by decide +kernel
theorem dX6_wayOf_54 : decode cX6_wayOf 54 = .ok (.bipush 6, 2) := by decide +kernel
theorem dX6_wayOf_56 : decode cX6_wayOf 56 = .ok (.iaload, 1) := by decide +kernel
theorem dX6_wayOf_57 : decode cX6_wayOf 57 = .ok (.if_icmp .ge 7, 3) := by decide +kernel
theorem dX6_wayOf_60 : decode cX6_wayOf 60 = .ok (.iconst 4, 1) := by decide +kernel
theorem dX6_wayOf_61 : decode cX6_wayOf 61 = .ok (.goto 9, 3) := by decide +kernel
theorem dX6_wayOf_64 : decode cX6_wayOf 64 = .ok (.aload_n 0, 1) := by decide +kernel
theorem dX6_wayOf_65 : decode cX6_wayOf 65 = .ok (.getfield 7, 3) := by decide +kernel
theorem dX6_wayOf_68 : decode cX6_wayOf 68 = .ok (.iconst 3, 1) := by decide +kernel
theorem dX6_wayOf_69 : decode cX6_wayOf 69 = .ok (.iaload, 1) := by decide +kernel
theorem dX6_wayOf_70 : decode cX6_wayOf 70 = .ok (.istore_n 2, 1) := by decide +kernel
theorem dX6_wayOf_71 : decode cX6_wayOf 71 = .ok (.goto 76, 3) := by decide +kernel
theorem dX6_wayOf_74 : decode cX6_wayOf 74 = .ok (.aload_n 0, 1) := by decide +kernel
theorem dX6_wayOf_75 : decode cX6_wayOf 75 = .ok (.getfield 7, 3) := by decide +kernel
theorem dX6_wayOf_78 : decode cX6_wayOf 78 = .ok (.iconst 1, 1) := by decide +kernel
theorem dX6_wayOf_79 : decode cX6_wayOf 79 = .ok (.iaload, 1) := by decide +kernel
theorem dX6_wayOf_80 : decode cX6_wayOf 80 = .ok (.iconst 2, 1) := by decide +kernel
theorem dX6_wayOf_81 : decode cX6_wayOf 81 = .ok (.irem, 1) := by decide +kernel
theorem dX6_wayOf_82 : decode cX6_wayOf 82 = .ok (.ifCond .ne 12, 3) := by decide +kernel
theorem dX6_wayOf_85 : decode cX6_wayOf 85 = .ok (.aload_n 0, 1) := by decide +kernel
theorem dX6_wayOf_86 : decode cX6_wayOf 86 = .ok (.getfield 7, 3) := by decide +kernel
theorem dX6_wayOf_89 : decode cX6_wayOf 89 = .ok (.iconst 3, 1) := by decide +kernel
theorem dX6_wayOf_90 : decode cX6_wayOf 90 = .ok (.iaload, 1) := by decide +kernel
theorem dX6_wayOf_91 : decode cX6_wayOf 91 = .ok (.goto 4, 3) := by decide +kernel
theorem dX6_wayOf_94 : decode cX6_wayOf 94 = .ok (.iconst 4, 1) := by decide +kernel
theorem dX6_wayOf_95 : decode cX6_wayOf 95 = .ok (.istore_n 2, 1) := by decide +kernel
theorem dX6_wayOf_96 : decode cX6_wayOf 96 = .ok (.goto 51, 3) := by decide +kernel
theorem dX6_wayOf_99 : decode cX6_wayOf 99 = .ok (.aload_n 0, 1) := by decide +kernel
theorem dX6_wayOf_100 : decode cX6_wayOf 100 = .ok (.iload_n 1, 1) := by decide +kernel
theorem dX6_wayOf_101 : decode cX6_wayOf 101 = .ok (.invokevirtual 185, 3) := by decide +kernel
theorem dX6_wayOf_104 : decode cX6_wayOf 104 = .ok (.istore_n 2, 1) := by decide +kernel
theorem dX6_wayOf_105 : decode cX6_wayOf 105 = .ok (.goto 42, 3) := by decide +kernel
theorem dX6_wayOf_108 : decode cX6_wayOf 108 = .ok (.aload_n 0, 1) := by decide +kernel
theorem dX6_wayOf_109 : decode cX6_wayOf 109 = .ok (.getfield 7, 3) := by decide +kernel
theorem dX6_wayOf_112 : decode cX6_wayOf 112 = .ok (.iconst 1, 1) := by decide +kernel
theorem dX6_wayOf_113 : decode cX6_wayOf 113 = .ok (.iaload, 1) := by decide +kernel
theorem dX6_wayOf_114 : decode cX6_wayOf 114 = .ok (.iconst 4, 1) := by decide +kernel
theorem dX6_wayOf_115 : decode cX6_wayOf 115 = .ok (.irem, 1) := by decide +kernel
theorem dX6_wayOf_116 : decode cX6_wayOf 116 = .ok (.ifCond .ne 12, 3) := by decide +kernel
theorem dX6_wayOf_119 : decode cX6_wayOf 119 = .ok (.aload_n 0, 1) := by decide +kernel
theorem dX6_wayOf_120 : decode cX6_wayOf 120 = .ok (.getfield 7, 3) := by decide +kernel
theorem dX6_wayOf_123 : decode cX6_wayOf 123 = .ok (.iconst 3, 1) := by decide +kernel
theorem dX6_wayOf_124 : decode cX6_wayOf 124 = .ok (.iaload, 1) := by decide +kernel
theorem dX6_wayOf_125 : decode cX6_wayOf 125 = .ok (.goto 8, 3) := by decide +kernel
theorem dX6_wayOf_128 : decode cX6_wayOf 128 = .ok (.aload_n 0, 1) := by decide +kernel
theorem dX6_wayOf_129 : decode cX6_wayOf 129 = .ok (.iload_n 1, 1) := by decide +kernel
theorem dX6_wayOf_130 : decode cX6_wayOf 130 = .ok (.invokevirtual 185, 3) := by decide +kernel
theorem dX6_wayOf_133 : decode cX6_wayOf 133 = .ok (.istore_n 2, 1) := by decide +kernel
theorem dX6_wayOf_134 : decode cX6_wayOf 134 = .ok (.goto 13, 3) := by decide +kernel
theorem dX6_wayOf_137 : decode cX6_wayOf 137 = .ok (.goto 10, 3) := by decide +kernel
theorem dX6_wayOf_140 : decode cX6_wayOf 140 = .ok (.aload_n 0, 1) := by decide +kernel
theorem dX6_wayOf_141 : decode cX6_wayOf 141 = .ok (.getfield 7, 3) := by decide +kernel
theorem dX6_wayOf_144 : decode cX6_wayOf 144 = .ok (.iconst 3, 1) := by decide +kernel
theorem dX6_wayOf_145 : decode cX6_wayOf 145 = .ok (.iaload, 1) := by decide +kernel
theorem dX6_wayOf_146 : decode cX6_wayOf 146 = .ok (.istore_n 2, 1) := by decide +kernel
theorem dX6_wayOf_147 : decode cX6_wayOf 147 = .ok (.iload_n 2, 1) := by decide +kernel
theorem dX6_wayOf_148 : decode cX6_wayOf 148 = .ok (.iconst 4, 1) := by decide +kernel
theorem dX6_wayOf_149 : decode cX6_wayOf 149 = .ok (.if_icmp .eq 16, 3) := by decide +kernel
theorem dX6_wayOf_152 : decode cX6_wayOf 152 = .ok (.aload_n 0, 1) := by decide +kernel
theorem dX6_wayOf_153 : decode cX6_wayOf 153 = .ok (.iload_n 1, 1) := by decide +kernel
theorem dX6_wayOf_154 : decode cX6_wayOf 154 = .ok (.iconst 3, 1) := by decide +kernel
theorem dX6_wayOf_155 : decode cX6_wayOf 155 = .ok (.invokevirtual 182, 3) := by decide +kernel
theorem dX6_wayOf_158 : decode cX6_wayOf 158 = .ok (.iload_n 2, 1) := by decide +kernel
theorem dX6_wayOf_159 : decode cX6_wayOf 159 = .ok (.invokestatic 188, 3) := by decide +kernel
theorem dX6_wayOf_162 : decode cX6_wayOf 162 = .ok (.ifCond .ge 7, 3) := by decide +kernel
theorem dX6_wayOf_165 : decode cX6_wayOf 165 = .ok (.iconst 4, 1) := by decide +kernel
theorem dX6_wayOf_166 : decode cX6_wayOf 166 = .ok (.goto 4, 3) := by decide +kernel
theorem dX6_wayOf_169 : decode cX6_wayOf 169 = .ok (.iload_n 2, 1) := by decide +kernel
theorem dX6_wayOf_170 : decode cX6_wayOf 170 = .ok (.ireturn, 1) := by decide +kernel
theorem dX6_wets_0 : decode cX6_wets 0 = .ok (.aload_n 0, 1) := by decide +kernel
theorem dX6_wets_1 : decode cX6_wets 1 = .ok (.iload_n 1, 1) := by decide +kernel
theorem dX6_wets_2 : decode cX6_wets 2 = .ok (.iconst 1, 1) := by decide +kernel
theorem dX6_wets_3 : decode cX6_wets 3 = .ok (.invokevirtual 182, 3) := by decide +kernel
theorem dX6_wets_6 : decode cX6_wets 6 = .ok (.istore_n 2, 1) := by decide +kernel
theorem dX6_wets_7 : decode cX6_wets 7 = .ok (.aload_n 0, 1) := by decide +kernel
theorem dX6_wets_8 : decode cX6_wets 8 = .ok (.iload_n 1, 1) := by decide +kernel
theorem dX6_wets_9 : decode cX6_wets 9 = .ok (.iconst 0, 1) := by decide +kernel
theorem dX6_wets_10 : decode cX6_wets 10 = .ok (.invokevirtual 182, 3) := by decide +kernel
theorem dX6_wets_13 : decode cX6_wets 13 = .ok (.tableswitch 78 1 5 #[35, 39, 41, 68, 74], 35) := by decide +kernel
theorem dX6_wets_48 : decode cX6_wets 48 = .ok (.iconst 1, 1) := by decide +kernel
theorem dX6_wets_49 : decode cX6_wets 49 = .ok (.iload_n 2, 1) := by decide +kernel
theorem dX6_wets_50 : decode cX6_wets 50 = .ok (.iadd, 1) := by decide +kernel
theorem dX6_wets_51 : decode cX6_wets 51 = .ok (.ireturn, 1) := by decide +kernel
theorem dX6_wets_52 : decode cX6_wets 52 = .ok (.iconst 1, 1) := by decide +kernel
theorem dX6_wets_53 : decode cX6_wets 53 = .ok (.ireturn, 1) := by decide +kernel
theorem dX6_wets_54 : decode cX6_wets 54 = .ok (.aload_n 0, 1) := by decide +kernel
theorem dX6_wets_55 : decode cX6_wets 55 = .ok (.iload_n 1, 1) := by decide +kernel
theorem dX6_wets_56 : decode cX6_wets 56 = .ok (.iconst 3, 1) := by decide +kernel
theorem dX6_wets_57 : decode cX6_wets 57 = .ok (.invokevirtual 182, 3) := by decide +kernel
theorem dX6_wets_60 : decode cX6_wets 60 = .ok (.aload_n 0, 1) := by decide +kernel
theorem dX6_wets_61 : decode cX6_wets 61 = .ok (.iload_n 1, 1) := by decide +kernel
theorem dX6_wets_62 : decode cX6_wets 62 = .ok (.iconst 2, 1) := by decide +kernel
theorem dX6_wets_63 : decode cX6_wets 63 = .ok (.invokevirtual 182, 3) := by decide +kernel
theorem dX6_wets_66 : decode cX6_wets 66 = .ok (.if_icmp .ne 11, 3) := by decide +kernel
theorem dX6_wets_69 : decode cX6_wets 69 = .ok (.iconst 2, 1) := by decide +kernel
theorem dX6_wets_70 : decode cX6_wets 70 = .ok (.iconst 1, 1) := by decide +kernel
theorem dX6_wets_71 : decode cX6_wets 71 = .ok (.iload_n 2, 1) := by decide +kernel
theorem dX6_wets_72 : decode cX6_wets 72 = .ok (.iadd, 1) := by decide +kernel
theorem dX6_wets_73 : decode cX6_wets 73 = .ok (.imul, 1) := by decide +kernel
theorem dX6_wets_74 : decode cX6_wets 74 = .ok (.goto 6, 3) := by decide +kernel
theorem dX6_wets_77 : decode cX6_wets 77 = .ok (.iconst 1, 1) := by decide +kernel
theorem dX6_wets_78 : decode cX6_wets 78 = .ok (.iload_n 2, 1) := by decide +kernel
theorem dX6_wets_79 : decode cX6_wets 79 = .ok (.iadd, 1) := by decide +kernel
theorem dX6_wets_80 : decode cX6_wets 80 = .ok (.ireturn, 1) := by decide +kernel
theorem dX6_wets_81 : decode cX6_wets 81 = .ok (.iconst 1, 1) := by decide +kernel
theorem dX6_wets_82 : decode cX6_wets 82 = .ok (.iload_n 2, 1) := by decide +kernel
theorem dX6_wets_83 : decode cX6_wets 83 = .ok (.iconst 3, 1) := by decide +kernel
theorem dX6_wets_84 : decode cX6_wets 84 = .ok (.idiv, 1) := by decide +kernel
theorem dX6_wets_85 : decode cX6_wets 85 = .ok (.iadd, 1) := by decide +kernel
theorem dX6_wets_86 : decode cX6_wets 86 = .ok (.ireturn, 1) := by decide +kernel
theorem dX6_wets_87 : decode cX6_wets 87 = .ok (.iconst 0, 1) := by decide +kernel
theorem dX6_wets_88 : decode cX6_wets 88 = .ok (.iload_n 2, 1) := by decide +kernel
theorem dX6_wets_89 : decode cX6_wets 89 = .ok (.isub, 1) := by decide +kernel
theorem dX6_wets_90 : decode cX6_wets 90 = .ok (.ireturn, 1) := by decide +kernel
theorem dX6_wets_91 : decode cX6_wets 91 = .ok (.iconst 0, 1) := by decide +kernel
theorem dX6_wets_92 : decode cX6_wets 92 = .ok (.ireturn, 1) := by decide +kernel
theorem dX6_of_0 : decode cX6_of 0 = .ok (.aload_n 0, 1) := by decide +kernel
theorem dX6_of_1 : decode cX6_of 1 = .ok (.iload_n 1, 1) := by decide +kernel
theorem dX6_of_2 : decode cX6_of 2 = .ok (.invokevirtual 191, 3) := by decide +kernel
theorem dX6_of_5 : decode cX6_of 5 = .ok (.ifCond .eq 15, 3) := by decide +kernel
theorem dX6_of_8 : decode cX6_of 8 = .ok (.iload_n 2, 1) := by decide +kernel
theorem dX6_of_9 : decode cX6_of 9 = .ok (.i2l, 1) := by decide +kernel
theorem dX6_of_10 : decode cX6_of 10 = .ok (.lconst 0, 1) := by decide +kernel
theorem dX6_of_11 : decode cX6_of 11 = .ok (.ldc2_w 177, 3) := by decide +kernel
theorem dX6_of_14 : decode cX6_of 14 = .ok (.invokestatic 70, 3) := by decide +kernel
theorem dX6_of_17 : decode cX6_of 17 = .ok (.ifCond .ne 5, 3) := by decide +kernel
theorem dX6_of_20 : decode cX6_of 20 = .ok (.iconst (-1), 1) := by decide +kernel
theorem dX6_of_21 : decode cX6_of 21 = .ok (.ireturn, 1) := by decide +kernel
theorem dX6_of_22 : decode cX6_of 22 = .ok (.iload_n 2, 1) := by decide +kernel
theorem dX6_of_23 : decode cX6_of 23 = .ok (.iconst 4, 1) := by decide +kernel
theorem dX6_of_24 : decode cX6_of 24 = .ok (.if_icmp .ge 12, 3) := by decide +kernel
theorem dX6_of_27 : decode cX6_of 27 = .ok (.aload_n 0, 1) := by decide +kernel
theorem dX6_of_28 : decode cX6_of 28 = .ok (.iload_n 1, 1) := by decide +kernel
theorem dX6_of_29 : decode cX6_of 29 = .ok (.iload_n 2, 1) := by decide +kernel
theorem dX6_of_30 : decode cX6_of 30 = .ok (.invokevirtual 182, 3) := by decide +kernel
theorem dX6_of_33 : decode cX6_of 33 = .ok (.goto 25, 3) := by decide +kernel
theorem dX6_of_36 : decode cX6_of 36 = .ok (.iload_n 2, 1) := by decide +kernel
theorem dX6_of_37 : decode cX6_of 37 = .ok (.iconst 4, 1) := by decide +kernel
theorem dX6_of_38 : decode cX6_of 38 = .ok (.if_icmp .ne 11, 3) := by decide +kernel
theorem dX6_of_41 : decode cX6_of 41 = .ok (.aload_n 0, 1) := by decide +kernel
theorem dX6_of_42 : decode cX6_of 42 = .ok (.iload_n 1, 1) := by decide +kernel
theorem dX6_of_43 : decode cX6_of 43 = .ok (.invokevirtual 194, 3) := by decide +kernel
theorem dX6_of_46 : decode cX6_of 46 = .ok (.goto 12, 3) := by decide +kernel
theorem dX6_of_49 : decode cX6_of 49 = .ok (.sipush 1000, 3) := by decide +kernel
theorem dX6_of_52 : decode cX6_of 52 = .ok (.aload_n 0, 1) := by decide +kernel
theorem dX6_of_53 : decode cX6_of 53 = .ok (.iload_n 1, 1) := by decide +kernel
theorem dX6_of_54 : decode cX6_of 54 = .ok (.invokevirtual 197, 3) := by decide +kernel
theorem dX6_of_57 : decode cX6_of 57 = .ok (.iadd, 1) := by decide +kernel
theorem dX6_of_58 : decode cX6_of 58 = .ok (.ireturn, 1) := by decide +kernel
theorem dX6_mind_0 : decode cX6_mind 0 = .ok (.aload_n 0, 1) := by decide +kernel
theorem dX6_mind_1 : decode cX6_mind 1 = .ok (.iload_n 1, 1) := by decide +kernel
theorem dX6_mind_2 : decode cX6_mind 2 = .ok (.invokevirtual 191, 3) := by decide +kernel
theorem dX6_mind_5 : decode cX6_mind 5 = .ok (.ifCond .eq 27, 3) := by decide +kernel
theorem dX6_mind_8 : decode cX6_mind 8 = .ok (.iload_n 2, 1) := by decide +kernel
theorem dX6_mind_9 : decode cX6_mind 9 = .ok (.i2l, 1) := by decide +kernel
theorem dX6_mind_10 : decode cX6_mind 10 = .ok (.lconst 0, 1) := by decide +kernel
theorem dX6_mind_11 : decode cX6_mind 11 = .ok (.ldc2_w 177, 3) := by decide +kernel
theorem dX6_mind_14 : decode cX6_mind 14 = .ok (.invokestatic 70, 3) := by decide +kernel
theorem dX6_mind_17 : decode cX6_mind 17 = .ok (.ifCond .eq 15, 3) := by decide +kernel
theorem dX6_mind_20 : decode cX6_mind 20 = .ok (.iload_n 3, 1) := by decide +kernel
theorem dX6_mind_21 : decode cX6_mind 21 = .ok (.i2l, 1) := by decide +kernel
theorem dX6_mind_22 : decode cX6_mind 22 = .ok (.lconst 0, 1) := by decide +kernel
theorem dX6_mind_23 : decode cX6_mind 23 = .ok (.ldc2_w 172, 3) := by decide +kernel
theorem dX6_mind_26 : decode cX6_mind 26 = .ok (.invokestatic 70, 3) := by decide +kernel
theorem dX6_mind_29 : decode cX6_mind 29 = .ok (.ifCond .ne 5, 3) := by decide +kernel
theorem dX6_mind_32 : decode cX6_mind 32 = .ok (.iconst (-1), 1) := by decide +kernel
theorem dX6_mind_33 : decode cX6_mind 33 = .ok (.ireturn, 1) := by decide +kernel
theorem dX6_mind_34 : decode cX6_mind 34 = .ok (.aload_n 0, 1) := by decide +kernel
theorem dX6_mind_35 : decode cX6_mind 35 = .ok (.getfield 7, 3) := by decide +kernel
theorem dX6_mind_38 : decode cX6_mind 38 = .ok (.bipush 24, 2) := by decide +kernel
theorem dX6_mind_40 : decode cX6_mind 40 = .ok (.iconst 4, 1) := by decide +kernel
theorem dX6_mind_41 : decode cX6_mind 41 = .ok (.iload_n 1, 1) := by decide +kernel
theorem dX6_mind_42 : decode cX6_mind 42 = .ok (.imul, 1) := by decide +kernel
theorem dX6_mind_43 : decode cX6_mind 43 = .ok (.iadd, 1) := by decide +kernel
theorem dX6_mind_44 : decode cX6_mind 44 = .ok (.iconst 1, 1) := by decide +kernel
theorem dX6_mind_45 : decode cX6_mind 45 = .ok (.iadd, 1) := by decide +kernel
theorem dX6_mind_46 : decode cX6_mind 46 = .ok (.iload_n 3, 1) := by decide +kernel
theorem dX6_mind_47 : decode cX6_mind 47 = .ok (.iastore, 1) := by decide +kernel
theorem dX6_mind_48 : decode cX6_mind 48 = .ok (.aload_n 0, 1) := by decide +kernel
theorem dX6_mind_49 : decode cX6_mind 49 = .ok (.bipush 24, 2) := by decide +kernel
theorem dX6_mind_51 : decode cX6_mind 51 = .ok (.iconst 4, 1) := by decide +kernel
theorem dX6_mind_52 : decode cX6_mind 52 = .ok (.iload_n 1, 1) := by decide +kernel
theorem dX6_mind_53 : decode cX6_mind 53 = .ok (.imul, 1) := by decide +kernel
theorem dX6_mind_54 : decode cX6_mind 54 = .ok (.iadd, 1) := by decide +kernel
theorem dX6_mind_55 : decode cX6_mind 55 = .ok (.iload_n 2, 1) := by decide +kernel
theorem dX6_mind_56 : decode cX6_mind 56 = .ok (.invokevirtual 174, 3) := by decide +kernel
theorem dX6_mind_59 : decode cX6_mind 59 = .ok (.ireturn, 1) := by decide +kernel
theorem dX6_bring_0 : decode cX6_bring 0 = .ok (.aload_n 0, 1) := by decide +kernel
theorem dX6_bring_1 : decode cX6_bring 1 = .ok (.iload_n 1, 1) := by decide +kernel
theorem dX6_bring_2 : decode cX6_bring 2 = .ok (.invokevirtual 191, 3) := by decide +kernel
theorem dX6_bring_5 : decode cX6_bring 5 = .ok (.ifCond .eq 26, 3) := by decide +kernel
theorem dX6_bring_8 : decode cX6_bring 8 = .ok (.iload_n 2, 1) := by decide +kernel
theorem dX6_bring_9 : decode cX6_bring 9 = .ok (.invokestatic 179, 3) := by decide +kernel
theorem dX6_bring_12 : decode cX6_bring 12 = .ok (.ifCond .eq 19, 3) := by decide +kernel
theorem dX6_bring_15 : decode cX6_bring 15 = .ok (.aload_n 0, 1) := by decide +kernel
theorem dX6_bring_16 : decode cX6_bring 16 = .ok (.bipush 24, 2) := by decide +kernel
theorem dX6_bring_18 : decode cX6_bring 18 = .ok (.iconst 4, 1) := by decide +kernel
theorem dX6_bring_19 : decode cX6_bring 19 = .ok (.iload_n 1, 1) := by decide +kernel
theorem dX6_bring_20 : decode cX6_bring 20 = .ok (.imul, 1) := by decide +kernel
theorem dX6_bring_21 : decode cX6_bring 21 = .ok (.iadd, 1) := by decide +kernel
theorem dX6_bring_22 : decode cX6_bring 22 = .ok (.iconst 3, 1) := by decide +kernel
theorem dX6_bring_23 : decode cX6_bring 23 = .ok (.iadd, 1) := by decide +kernel
theorem dX6_bring_24 : decode cX6_bring 24 = .ok (.iload_n 2, 1) := by decide +kernel
theorem dX6_bring_25 : decode cX6_bring 25 = .ok (.invokevirtual 174, 3) := by decide +kernel
theorem dX6_bring_28 : decode cX6_bring 28 = .ok (.goto 4, 3) := by decide +kernel
theorem dX6_bring_31 : decode cX6_bring 31 = .ok (.iconst (-1), 1) := by decide +kernel
theorem dX6_bring_32 : decode cX6_bring 32 = .ok (.ireturn, 1) := by decide +kernel
theorem dX6_send_0 : decode cX6_send 0 = .ok (.aload_n 0, 1) := by decide +kernel
theorem dX6_send_1 : decode cX6_send 1 = .ok (.iload_n 1, 1) := by decide +kernel
theorem dX6_send_2 : decode cX6_send 2 = .ok (.invokevirtual 191, 3) := by decide +kernel
theorem dX6_send_5 : decode cX6_send 5 = .ok (.ifCond .eq 26, 3) := by decide +kernel
theorem dX6_send_8 : decode cX6_send 8 = .ok (.iload_n 2, 1) := by decide +kernel
theorem dX6_send_9 : decode cX6_send 9 = .ok (.invokestatic 179, 3) := by decide +kernel
theorem dX6_send_12 : decode cX6_send 12 = .ok (.ifCond .eq 19, 3) := by decide +kernel
theorem dX6_send_15 : decode cX6_send 15 = .ok (.aload_n 0, 1) := by decide +kernel
theorem dX6_send_16 : decode cX6_send 16 = .ok (.bipush 24, 2) := by decide +kernel
theorem dX6_send_18 : decode cX6_send 18 = .ok (.iconst 4, 1) := by decide +kernel
theorem dX6_send_19 : decode cX6_send 19 = .ok (.iload_n 1, 1) := by decide +kernel
theorem dX6_send_20 : decode cX6_send 20 = .ok (.imul, 1) := by decide +kernel
theorem dX6_send_21 : decode cX6_send 21 = .ok (.iadd, 1) := by decide +kernel
theorem dX6_send_22 : decode cX6_send 22 = .ok (.iconst 2, 1) := by decide +kernel
theorem dX6_send_23 : decode cX6_send 23 = .ok (.iadd, 1) := by decide +kernel
theorem dX6_send_24 : decode cX6_send 24 = .ok (.iload_n 2, 1) := by decide +kernel
theorem dX6_send_25 : decode cX6_send 25 = .ok (.invokevirtual 174, 3) := by decide +kernel
theorem dX6_send_28 : decode cX6_send 28 = .ok (.goto 4, 3) := by decide +kernel
theorem dX6_send_31 : decode cX6_send 31 = .ok (.iconst (-1), 1) := by decide +kernel
theorem dX6_send_32 : decode cX6_send 32 = .ok (.ireturn, 1) := by decide +kernel
theorem dX6_blow_0 : decode cX6_blow 0 = .ok (.iload_n 1, 1) := by decide +kernel
theorem dX6_blow_1 : decode cX6_blow 1 = .ok (.i2l, 1) := by decide +kernel
theorem dX6_blow_2 : decode cX6_blow 2 = .ok (.lconst 0, 1) := by decide +kernel
theorem dX6_blow_3 : decode cX6_blow 3 = .ok (.ldc2_w 168, 3) := by decide +kernel
theorem dX6_blow_6 : decode cX6_blow 6 = .ok (.invokestatic 70, 3) := by decide +kernel
theorem dX6_blow_9 : decode cX6_blow 9 = .ok (.ifCond .eq 12, 3) := by decide +kernel
theorem dX6_blow_12 : decode cX6_blow 12 = .ok (.aload_n 0, 1) := by decide +kernel
theorem dX6_blow_13 : decode cX6_blow 13 = .ok (.iconst 3, 1) := by decide +kernel
theorem dX6_blow_14 : decode cX6_blow 14 = .ok (.iload_n 1, 1) := by decide +kernel
theorem dX6_blow_15 : decode cX6_blow 15 = .ok (.invokevirtual 174, 3) := by decide +kernel
theorem dX6_blow_18 : decode cX6_blow 18 = .ok (.goto 4, 3) := by decide +kernel
theorem dX6_blow_21 : decode cX6_blow 21 = .ok (.iconst (-1), 1) := by decide +kernel
theorem dX6_blow_22 : decode cX6_blow 22 = .ok (.ireturn, 1) := by decide +kernel
theorem dX6_pour_0 : decode cX6_pour 0 = .ok (.iload_n 1, 1) := by decide +kernel
theorem dX6_pour_1 : decode cX6_pour 1 = .ok (.invokestatic 179, 3) := by decide +kernel
theorem dX6_pour_4 : decode cX6_pour 4 = .ok (.ifCond .eq 27, 3) := by decide +kernel
theorem dX6_pour_7 : decode cX6_pour 7 = .ok (.iload_n 2, 1) := by decide +kernel
theorem dX6_pour_8 : decode cX6_pour 8 = .ok (.i2l, 1) := by decide +kernel
theorem dX6_pour_9 : decode cX6_pour 9 = .ok (.lconst 0, 1) := by decide +kernel
theorem dX6_pour_10 : decode cX6_pour 10 = .ok (.ldc2_w 170, 3) := by decide +kernel
theorem dX6_pour_13 : decode cX6_pour 13 = .ok (.invokestatic 70, 3) := by decide +kernel
theorem dX6_pour_16 : decode cX6_pour 16 = .ok (.ifCond .eq 15, 3) := by decide +kernel
theorem dX6_pour_19 : decode cX6_pour 19 = .ok (.aload_n 0, 1) := by decide +kernel
theorem dX6_pour_20 : decode cX6_pour 20 = .ok (.bipush 8, 2) := by decide +kernel
theorem dX6_pour_22 : decode cX6_pour 22 = .ok (.iload_n 1, 1) := by decide +kernel
theorem dX6_pour_23 : decode cX6_pour 23 = .ok (.iadd, 1) := by decide +kernel
theorem dX6_pour_24 : decode cX6_pour 24 = .ok (.iload_n 2, 1) := by decide +kernel
theorem dX6_pour_25 : decode cX6_pour 25 = .ok (.invokevirtual 174, 3) := by decide +kernel
theorem dX6_pour_28 : decode cX6_pour 28 = .ok (.goto 4, 3) := by decide +kernel
theorem dX6_pour_31 : decode cX6_pour 31 = .ok (.iconst (-1), 1) := by decide +kernel
theorem dX6_pour_32 : decode cX6_pour 32 = .ok (.ireturn, 1) := by decide +kernel
theorem dX6_thoseAt_0 : decode cX6_thoseAt 0 = .ok (.iconst 0, 1) := by decide +kernel
theorem dX6_thoseAt_1 : decode cX6_thoseAt 1 = .ok (.istore_n 2, 1) := by decide +kernel
theorem dX6_thoseAt_2 : decode cX6_thoseAt 2 = .ok (.iconst 0, 1) := by decide +kernel
theorem dX6_thoseAt_3 : decode cX6_thoseAt 3 = .ok (.istore_n 3, 1) := by decide +kernel
theorem dX6_thoseAt_4 : decode cX6_thoseAt 4 = .ok (.iload_n 3, 1) := by decide +kernel
theorem dX6_thoseAt_5 : decode cX6_thoseAt 5 = .ok (.aload_n 0, 1) := by decide +kernel
theorem dX6_thoseAt_6 : decode cX6_thoseAt 6 = .ok (.getfield 7, 3) := by decide +kernel
theorem dX6_thoseAt_9 : decode cX6_thoseAt 9 = .ok (.iconst 0, 1) := by decide +kernel
theorem dX6_thoseAt_10 : decode cX6_thoseAt 10 = .ok (.iaload, 1) := by decide +kernel
theorem dX6_thoseAt_11 : decode cX6_thoseAt 11 = .ok (.if_icmp .ge 29, 3) := by decide +kernel
theorem dX6_thoseAt_14 : decode cX6_thoseAt 14 = .ok (.iload_n 2, 1) := by decide +kernel
theorem dX6_thoseAt_15 : decode cX6_thoseAt 15 = .ok (.aload_n 0, 1) := by decide +kernel
theorem dX6_thoseAt_16 : decode cX6_thoseAt 16 = .ok (.iload_n 3, 1) := by decide +kernel
theorem dX6_thoseAt_17 : decode cX6_thoseAt 17 = .ok (.iconst 3, 1) := by decide +kernel
theorem dX6_thoseAt_18 : decode cX6_thoseAt 18 = .ok (.invokevirtual 182, 3) := by decide +kernel
theorem dX6_thoseAt_21 : decode cX6_thoseAt 21 = .ok (.iload_n 1, 1) := by decide +kernel
theorem dX6_thoseAt_22 : decode cX6_thoseAt 22 = .ok (.if_icmp .ne 9, 3) := by decide +kernel
theorem dX6_thoseAt_25 : decode cX6_thoseAt 25 = .ok (.iconst 1, 1) := by decide +kernel
theorem dX6_thoseAt_26 : decode cX6_thoseAt 26 = .ok (.iload_n 3, 1) := by decide +kernel
theorem dX6_thoseAt_27 : decode cX6_thoseAt 27 = .ok (.ishl, 1) := by decide +kernel
theorem dX6_thoseAt_28 : decode cX6_thoseAt 28 = .ok (.goto 4, 3) := by decide +kernel
theorem dX6_thoseAt_31 : decode cX6_thoseAt 31 = .ok (.iconst 0, 1) := by decide +kernel
theorem dX6_thoseAt_32 : decode cX6_thoseAt 32 = .ok (.ior, 1) := by decide +kernel
theorem dX6_thoseAt_33 : decode cX6_thoseAt 33 = .ok (.istore_n 2, 1) := by decide +kernel
theorem dX6_thoseAt_34 : decode cX6_thoseAt 34 = .ok (.iinc 3 1, 3) := by decide +kernel
theorem dX6_thoseAt_37 : decode cX6_thoseAt 37 = .ok (.goto (-33), 3) := by decide +kernel
theorem dX6_thoseAt_40 : decode cX6_thoseAt 40 = .ok (.iload_n 2, 1) := by decide +kernel
theorem dX6_thoseAt_41 : decode cX6_thoseAt 41 = .ok (.ireturn, 1) := by decide +kernel
theorem dX6_house_0 : decode cX6_house 0 = .ok (.iload_n 1, 1) := by decide +kernel
theorem dX6_house_1 : decode cX6_house 1 = .ok (.invokestatic 179, 3) := by decide +kernel
theorem dX6_house_4 : decode cX6_house 4 = .ok (.ifCond .eq 13, 3) := by decide +kernel
theorem dX6_house_7 : decode cX6_house 7 = .ok (.iload_n 2, 1) := by decide +kernel
theorem dX6_house_8 : decode cX6_house 8 = .ok (.i2l, 1) := by decide +kernel
theorem dX6_house_9 : decode cX6_house 9 = .ok (.lconst 0, 1) := by decide +kernel
theorem dX6_house_10 : decode cX6_house 10 = .ok (.lconst 1, 1) := by decide +kernel
theorem dX6_house_11 : decode cX6_house 11 = .ok (.invokestatic 70, 3) := by decide +kernel
theorem dX6_house_14 : decode cX6_house 14 = .ok (.ifCond .ne 5, 3) := by decide +kernel
theorem dX6_house_17 : decode cX6_house 17 = .ok (.iconst (-1), 1) := by decide +kernel
theorem dX6_house_18 : decode cX6_house 18 = .ok (.ireturn, 1) := by decide +kernel
theorem dX6_house_19 : decode cX6_house 19 = .ok (.iload_n 2, 1) := by decide +kernel
theorem dX6_house_20 : decode cX6_house 20 = .ok (.ifCond .ne 15, 3) := by decide +kernel
theorem dX6_house_23 : decode cX6_house 23 = .ok (.aload_n 0, 1) := by decide +kernel
theorem dX6_house_24 : decode cX6_house 24 = .ok (.getfield 7, 3) := by decide +kernel
theorem dX6_house_27 : decode cX6_house 27 = .ok (.bipush 8, 2) := by decide +kernel
theorem dX6_house_29 : decode cX6_house 29 = .ok (.iload_n 1, 1) := by decide +kernel
theorem dX6_house_30 : decode cX6_house 30 = .ok (.iadd, 1) := by decide +kernel
theorem dX6_house_31 : decode cX6_house 31 = .ok (.iaload, 1) := by decide +kernel
theorem dX6_house_32 : decode cX6_house 32 = .ok (.goto 8, 3) := by decide +kernel
theorem dX6_house_35 : decode cX6_house 35 = .ok (.aload_n 0, 1) := by decide +kernel
theorem dX6_house_36 : decode cX6_house 36 = .ok (.iload_n 1, 1) := by decide +kernel
theorem dX6_house_37 : decode cX6_house 37 = .ok (.invokevirtual 200, 3) := by decide +kernel
theorem dX6_house_40 : decode cX6_house 40 = .ok (.ireturn, 1) := by decide +kernel
theorem dX6_goesOn_0 : decode cX6_goesOn 0 = .ok (.aload_n 0, 1) := by decide +kernel
theorem dX6_goesOn_1 : decode cX6_goesOn 1 = .ok (.getfield 7, 3) := by decide +kernel
theorem dX6_goesOn_4 : decode cX6_goesOn 4 = .ok (.iconst 1, 1) := by decide +kernel
theorem dX6_goesOn_5 : decode cX6_goesOn 5 = .ok (.iaload, 1) := by decide +kernel
theorem dX6_goesOn_6 : decode cX6_goesOn 6 = .ok (.ifCond .le 35, 3) := by decide +kernel
theorem dX6_goesOn_9 : decode cX6_goesOn 9 = .ok (.aload_n 0, 1) := by decide +kernel
theorem dX6_goesOn_10 : decode cX6_goesOn 10 = .ok (.getfield 7, 3) := by decide +kernel
theorem dX6_goesOn_13 : decode cX6_goesOn 13 = .ok (.iconst 1, 1) := by decide +kernel
theorem dX6_goesOn_14 : decode cX6_goesOn 14 = .ok (.iaload, 1) := by decide +kernel
theorem dX6_goesOn_15 : decode cX6_goesOn 15 = .ok (.aload_n 0, 1) := by decide +kernel
theorem dX6_goesOn_16 : decode cX6_goesOn 16 = .ok (.getfield 7, 3) := by decide +kernel
theorem dX6_goesOn_19 : decode cX6_goesOn 19 = .ok (.iconst 4, 1) := by decide +kernel
theorem dX6_goesOn_20 : decode cX6_goesOn 20 = .ok (.iaload, 1) := by decide +kernel
theorem dX6_goesOn_21 : decode cX6_goesOn 21 = .ok (.irem, 1) := by decide +kernel
theorem dX6_goesOn_22 : decode cX6_goesOn 22 = .ok (.ifCond .ne 19, 3) := by decide +kernel
theorem dX6_goesOn_25 : decode cX6_goesOn 25 = .ok (.aload_n 0, 1) := by decide +kernel
theorem dX6_goesOn_26 : decode cX6_goesOn 26 = .ok (.getfield 7, 3) := by decide +kernel
theorem dX6_goesOn_29 : decode cX6_goesOn 29 = .ok (.iconst 3, 1) := by decide +kernel
theorem dX6_goesOn_30 : decode cX6_goesOn 30 = .ok (.aload_n 0, 1) := by decide +kernel
theorem dX6_goesOn_31 : decode cX6_goesOn 31 = .ok (.getfield 7, 3) := by decide +kernel
theorem dX6_goesOn_34 : decode cX6_goesOn 34 = .ok (.iconst 3, 1) := by decide +kernel
theorem dX6_goesOn_35 : decode cX6_goesOn 35 = .ok (.iaload, 1) := by decide +kernel
theorem dX6_goesOn_36 : decode cX6_goesOn 36 = .ok (.iconst 1, 1) := by decide +kernel
theorem dX6_goesOn_37 : decode cX6_goesOn 37 = .ok (.iadd, 1) := by decide +kernel
theorem dX6_goesOn_38 : decode cX6_goesOn 38 = .ok (.iconst 4, 1) := by decide +kernel
theorem dX6_goesOn_39 : decode cX6_goesOn 39 = .ok (.irem, 1) := by decide +kernel
theorem dX6_goesOn_40 : decode cX6_goesOn 40 = .ok (.iastore, 1) := by decide +kernel
theorem dX6_goesOn_41 : decode cX6_goesOn 41 = .ok (.iconst 0, 1) := by decide +kernel
theorem dX6_goesOn_42 : decode cX6_goesOn 42 = .ok (.istore_n 1, 1) := by decide +kernel
theorem dX6_goesOn_43 : decode cX6_goesOn 43 = .ok (.iload_n 1, 1) := by decide +kernel
theorem dX6_goesOn_44 : decode cX6_goesOn 44 = .ok (.aload_n 0, 1) := by decide +kernel
theorem dX6_goesOn_45 : decode cX6_goesOn 45 = .ok (.getfield 7, 3) := by decide +kernel
theorem dX6_goesOn_48 : decode cX6_goesOn 48 = .ok (.iconst 0, 1) := by decide +kernel
theorem dX6_goesOn_49 : decode cX6_goesOn 49 = .ok (.iaload, 1) := by decide +kernel
theorem dX6_goesOn_50 : decode cX6_goesOn 50 = .ok (.if_icmp .ge 52, 3) := by decide +kernel
theorem dX6_goesOn_53 : decode cX6_goesOn 53 = .ok (.aload_n 0, 1) := by decide +kernel
theorem dX6_goesOn_54 : decode cX6_goesOn 54 = .ok (.iload_n 1, 1) := by decide +kernel
theorem dX6_goesOn_55 : decode cX6_goesOn 55 = .ok (.invokevirtual 194, 3) := by decide +kernel
theorem dX6_goesOn_58 : decode cX6_goesOn 58 = .ok (.istore_n 2, 1) := by decide +kernel
theorem dX6_goesOn_59 : decode cX6_goesOn 59 = .ok (.aload_n 0, 1) := by decide +kernel
theorem dX6_goesOn_60 : decode cX6_goesOn 60 = .ok (.getfield 7, 3) := by decide +kernel
theorem dX6_goesOn_63 : decode cX6_goesOn 63 = .ok (.bipush 24, 2) := by decide +kernel
theorem dX6_goesOn_65 : decode cX6_goesOn 65 = .ok (.iconst 4, 1) := by decide +kernel
theorem dX6_goesOn_66 : decode cX6_goesOn 66 = .ok (.iload_n 1, 1) := by decide +kernel
theorem dX6_goesOn_67 : decode cX6_goesOn 67 = .ok (.imul, 1) := by decide +kernel
theorem dX6_goesOn_68 : decode cX6_goesOn 68 = .ok (.iadd, 1) := by decide +kernel
theorem dX6_goesOn_69 : decode cX6_goesOn 69 = .ok (.iconst 3, 1) := by decide +kernel
theorem dX6_goesOn_70 : decode cX6_goesOn 70 = .ok (.iadd, 1) := by decide +kernel
theorem dX6_goesOn_71 : decode cX6_goesOn 71 = .ok (.iload_n 2, 1) := by decide +kernel
theorem dX6_goesOn_72 : decode cX6_goesOn 72 = .ok (.iconst 4, 1) := by decide +kernel
theorem dX6_goesOn_73 : decode cX6_goesOn 73 = .ok (.if_icmp .ne 12, 3) := by decide +kernel
theorem dX6_goesOn_76 : decode cX6_goesOn 76 = .ok (.aload_n 0, 1) := by decide +kernel
theorem dX6_goesOn_77 : decode cX6_goesOn 77 = .ok (.iload_n 1, 1) := by decide +kernel
theorem dX6_goesOn_78 : decode cX6_goesOn 78 = .ok (.iconst 3, 1) := by decide +kernel
theorem dX6_goesOn_79 : decode cX6_goesOn 79 = .ok (.invokevirtual 182, 3) := by decide +kernel
theorem dX6_goesOn_82 : decode cX6_goesOn 82 = .ok (.goto 13, 3) := by decide +kernel
theorem dX6_goesOn_85 : decode cX6_goesOn 85 = .ok (.aload_n 0, 1) := by decide +kernel
theorem dX6_goesOn_86 : decode cX6_goesOn 86 = .ok (.iload_n 1, 1) := by decide +kernel
theorem dX6_goesOn_87 : decode cX6_goesOn 87 = .ok (.iconst 3, 1) := by decide +kernel
theorem dX6_goesOn_88 : decode cX6_goesOn 88 = .ok (.invokevirtual 182, 3) := by decide +kernel
theorem dX6_goesOn_91 : decode cX6_goesOn 91 = .ok (.iload_n 2, 1) := by decide +kernel
theorem dX6_goesOn_92 : decode cX6_goesOn 92 = .ok (.invokestatic 188, 3) := by decide +kernel
theorem dX6_goesOn_95 : decode cX6_goesOn 95 = .ok (.iastore, 1) := by decide +kernel
theorem dX6_goesOn_96 : decode cX6_goesOn 96 = .ok (.iinc 1 1, 3) := by decide +kernel
theorem dX6_goesOn_99 : decode cX6_goesOn 99 = .ok (.goto (-56), 3) := by decide +kernel
theorem dX6_goesOn_102 : decode cX6_goesOn 102 = .ok (.iconst 0, 1) := by decide +kernel
theorem dX6_goesOn_103 : decode cX6_goesOn 103 = .ok (.istore_n 1, 1) := by decide +kernel
theorem dX6_goesOn_104 : decode cX6_goesOn 104 = .ok (.iload_n 1, 1) := by decide +kernel
theorem dX6_goesOn_105 : decode cX6_goesOn 105 = .ok (.aload_n 0, 1) := by decide +kernel
theorem dX6_goesOn_106 : decode cX6_goesOn 106 = .ok (.getfield 7, 3) := by decide +kernel
theorem dX6_goesOn_109 : decode cX6_goesOn 109 = .ok (.iconst 0, 1) := by decide +kernel
theorem dX6_goesOn_110 : decode cX6_goesOn 110 = .ok (.iaload, 1) := by decide +kernel
theorem dX6_goesOn_111 : decode cX6_goesOn 111 = .ok (.if_icmp .ge 42, 3) := by decide +kernel
theorem dX6_goesOn_114 : decode cX6_goesOn 114 = .ok (.bipush 8, 2) := by decide +kernel
theorem dX6_goesOn_116 : decode cX6_goesOn 116 = .ok (.aload_n 0, 1) := by decide +kernel
theorem dX6_goesOn_117 : decode cX6_goesOn 117 = .ok (.iload_n 1, 1) := by decide +kernel
theorem dX6_goesOn_118 : decode cX6_goesOn 118 = .ok (.iconst 3, 1) := by decide +kernel
theorem dX6_goesOn_119 : decode cX6_goesOn 119 = .ok (.invokevirtual 182, 3) := by decide +kernel
theorem dX6_goesOn_122 : decode cX6_goesOn 122 = .ok (.iadd, 1) := by decide +kernel
theorem dX6_goesOn_123 : decode cX6_goesOn 123 = .ok (.istore_n 2, 1) := by decide +kernel
theorem dX6_goesOn_124 : decode cX6_goesOn 124 = .ok (.aload_n 0, 1) := by decide +kernel
theorem dX6_goesOn_125 : decode cX6_goesOn 125 = .ok (.getfield 7, 3) := by decide +kernel
theorem dX6_goesOn_128 : decode cX6_goesOn 128 = .ok (.iload_n 2, 1) := by decide +kernel
theorem dX6_goesOn_129 : decode cX6_goesOn 129 = .ok (.aload_n 0, 1) := by decide +kernel
theorem dX6_goesOn_130 : decode cX6_goesOn 130 = .ok (.getfield 7, 3) := by decide +kernel
theorem dX6_goesOn_133 : decode cX6_goesOn 133 = .ok (.iload_n 2, 1) := by decide +kernel
theorem dX6_goesOn_134 : decode cX6_goesOn 134 = .ok (.iaload, 1) := by decide +kernel
theorem dX6_goesOn_135 : decode cX6_goesOn 135 = .ok (.aload_n 0, 1) := by decide +kernel
theorem dX6_goesOn_136 : decode cX6_goesOn 136 = .ok (.iload_n 1, 1) := by decide +kernel
theorem dX6_goesOn_137 : decode cX6_goesOn 137 = .ok (.invokevirtual 197, 3) := by decide +kernel
theorem dX6_goesOn_140 : decode cX6_goesOn 140 = .ok (.iadd, 1) := by decide +kernel
theorem dX6_goesOn_141 : decode cX6_goesOn 141 = .ok (.bipush 99, 2) := by decide +kernel
theorem dX6_goesOn_143 : decode cX6_goesOn 143 = .ok (.invokestatic 64, 3) := by decide +kernel
theorem dX6_goesOn_146 : decode cX6_goesOn 146 = .ok (.iastore, 1) := by decide +kernel
theorem dX6_goesOn_147 : decode cX6_goesOn 147 = .ok (.iinc 1 1, 3) := by decide +kernel
theorem dX6_goesOn_150 : decode cX6_goesOn 150 = .ok (.goto (-46), 3) := by decide +kernel
theorem dX6_goesOn_153 : decode cX6_goesOn 153 = .ok (.aload_n 0, 1) := by decide +kernel
theorem dX6_goesOn_154 : decode cX6_goesOn 154 = .ok (.getfield 7, 3) := by decide +kernel
theorem dX6_goesOn_157 : decode cX6_goesOn 157 = .ok (.iconst 1, 1) := by decide +kernel
theorem dX6_goesOn_158 : decode cX6_goesOn 158 = .ok (.dup2, 1) := by decide +kernel
theorem dX6_goesOn_159 : decode cX6_goesOn 159 = .ok (.iaload, 1) := by decide +kernel
theorem dX6_goesOn_160 : decode cX6_goesOn 160 = .ok (.iconst 1, 1) := by decide +kernel
theorem dX6_goesOn_161 : decode cX6_goesOn 161 = .ok (.iadd, 1) := by decide +kernel
theorem dX6_goesOn_162 : decode cX6_goesOn 162 = .ok (.iastore, 1) := by decide +kernel
theorem dX6_goesOn_163 : decode cX6_goesOn 163 = .ok (.return_, 1) := by decide +kernel
theorem dX6_goes_0 : decode cX6_goes 0 = .ok (.iconst 0, 1) := by decide +kernel
theorem dX6_goes_1 : decode cX6_goes 1 = .ok (.istore_n 2, 1) := by decide +kernel
theorem dX6_goes_2 : decode cX6_goes 2 = .ok (.iload_n 2, 1) := by decide +kernel
theorem dX6_goes_3 : decode cX6_goes 3 = .ok (.iload_n 1, 1) := by decide +kernel
theorem dX6_goes_4 : decode cX6_goes 4 = .ok (.if_icmp .ge 13, 3) := by decide +kernel
theorem dX6_goes_7 : decode cX6_goes 7 = .ok (.aload_n 0, 1) := by decide +kernel
theorem dX6_goes_8 : decode cX6_goes 8 = .ok (.invokevirtual 203, 3) := by decide +kernel
theorem dX6_goes_11 : decode cX6_goes 11 = .ok (.iinc 2 1, 3) := by decide +kernel
theorem dX6_goes_14 : decode cX6_goes 14 = .ok (.goto (-12), 3) := by decide +kernel
theorem dX6_goes_17 : decode cX6_goes 17 = .ok (.return_, 1) := by decide +kernel
theorem dX6_stopped_0 : decode cX6_stopped 0 = .ok (.iconst 0, 1) := by decide +kernel
theorem dX6_stopped_1 : decode cX6_stopped 1 = .ok (.istore_n 1, 1) := by decide +kernel
theorem dX6_stopped_2 : decode cX6_stopped 2 = .ok (.iconst 0, 1) := by decide +kernel
theorem dX6_stopped_3 : decode cX6_stopped 3 = .ok (.istore_n 2, 1) := by decide +kernel
theorem dX6_stopped_4 : decode cX6_stopped 4 = .ok (.iload_n 2, 1) := by decide +kernel
theorem dX6_stopped_5 : decode cX6_stopped 5 = .ok (.aload_n 0, 1) := by decide +kernel
theorem dX6_stopped_6 : decode cX6_stopped 6 = .ok (.getfield 7, 3) := by decide +kernel
theorem dX6_stopped_9 : decode cX6_stopped 9 = .ok (.iconst 0, 1) := by decide +kernel
theorem dX6_stopped_10 : decode cX6_stopped 10 = .ok (.iaload, 1) := by decide +kernel
theorem dX6_stopped_11 : decode cX6_stopped 11 = .ok (.if_icmp .ge 34, 3) := by decide +kernel
theorem dX6_stopped_14 : decode cX6_stopped 14 = .ok (.iload_n 1, 1) := by decide +kernel
theorem dX6_stopped_15 : decode cX6_stopped 15 = .ok (.aload_n 0, 1) := by decide +kernel
theorem dX6_stopped_16 : decode cX6_stopped 16 = .ok (.iload_n 2, 1) := by decide +kernel
theorem dX6_stopped_17 : decode cX6_stopped 17 = .ok (.iconst 3, 1) := by decide +kernel
theorem dX6_stopped_18 : decode cX6_stopped 18 = .ok (.invokevirtual 182, 3) := by decide +kernel
theorem dX6_stopped_21 : decode cX6_stopped 21 = .ok (.aload_n 0, 1) := by decide +kernel
theorem dX6_stopped_22 : decode cX6_stopped 22 = .ok (.iload_n 2, 1) := by decide +kernel
theorem dX6_stopped_23 : decode cX6_stopped 23 = .ok (.iconst 2, 1) := by decide +kernel
theorem dX6_stopped_24 : decode cX6_stopped 24 = .ok (.invokevirtual 182, 3) := by decide +kernel
theorem dX6_stopped_27 : decode cX6_stopped 27 = .ok (.if_icmp .ne 9, 3) := by decide +kernel
theorem dX6_stopped_30 : decode cX6_stopped 30 = .ok (.iconst 1, 1) := by decide +kernel
theorem dX6_stopped_31 : decode cX6_stopped 31 = .ok (.iload_n 2, 1) := by decide +kernel
theorem dX6_stopped_32 : decode cX6_stopped 32 = .ok (.ishl, 1) := by decide +kernel
theorem dX6_stopped_33 : decode cX6_stopped 33 = .ok (.goto 4, 3) := by decide +kernel
theorem dX6_stopped_36 : decode cX6_stopped 36 = .ok (.iconst 0, 1) := by decide +kernel
theorem dX6_stopped_37 : decode cX6_stopped 37 = .ok (.ior, 1) := by decide +kernel
theorem dX6_stopped_38 : decode cX6_stopped 38 = .ok (.istore_n 1, 1) := by decide +kernel
theorem dX6_stopped_39 : decode cX6_stopped 39 = .ok (.iinc 2 1, 3) := by decide +kernel
theorem dX6_stopped_42 : decode cX6_stopped 42 = .ok (.goto (-38), 3) := by decide +kernel
theorem dX6_stopped_45 : decode cX6_stopped 45 = .ok (.iload_n 1, 1) := by decide +kernel
theorem dX6_stopped_46 : decode cX6_stopped 46 = .ok (.ireturn, 1) := by decide +kernel
theorem dX6_steps_0 : decode cX6_steps 0 = .ok (.iload_n 1, 1) := by decide +kernel
theorem dX6_steps_1 : decode cX6_steps 1 = .ok (.i2l, 1) := by decide +kernel
theorem dX6_steps_2 : decode cX6_steps 2 = .ok (.lconst 1, 1) := by decide +kernel
theorem dX6_steps_3 : decode cX6_steps 3 = .ok (.ldc2_w 206, 3) := by decide +kernel
theorem dX6_steps_6 : decode cX6_steps 6 = .ok (.invokestatic 70, 3) := by decide +kernel
theorem dX6_steps_9 : decode cX6_steps 9 = .ok (.ifCond .ne 5, 3) := by decide +kernel
theorem dX6_steps_12 : decode cX6_steps 12 = .ok (.iconst (-1), 1) := by decide +kernel
theorem dX6_steps_13 : decode cX6_steps 13 = .ok (.ireturn, 1) := by decide +kernel
theorem dX6_steps_14 : decode cX6_steps 14 = .ok (.aload_n 0, 1) := by decide +kernel
theorem dX6_steps_15 : decode cX6_steps 15 = .ok (.iload_n 1, 1) := by decide +kernel
theorem dX6_steps_16 : decode cX6_steps 16 = .ok (.invokevirtual 208, 3) := by decide +kernel
theorem dX6_steps_19 : decode cX6_steps 19 = .ok (.aload_n 0, 1) := by decide +kernel
theorem dX6_steps_20 : decode cX6_steps 20 = .ok (.invokevirtual 211, 3) := by decide +kernel
theorem dX6_steps_23 : decode cX6_steps 23 = .ok (.invokestatic 214, 3) := by decide +kernel
theorem dX6_steps_26 : decode cX6_steps 26 = .ok (.ireturn, 1) := by decide +kernel
theorem dX6_seed_0 : decode cX6_seed 0 = .ok (.aload_n 0, 1) := by decide +kernel
theorem dX6_seed_1 : decode cX6_seed 1 = .ok (.iconst 2, 1) := by decide +kernel
theorem dX6_seed_2 : decode cX6_seed 2 = .ok (.iload_n 1, 1) := by decide +kernel
theorem dX6_seed_3 : decode cX6_seed 3 = .ok (.invokevirtual 174, 3) := by decide +kernel
theorem dX6_seed_6 : decode cX6_seed 6 = .ok (.ireturn, 1) := by decide +kernel
theorem dX6_drawn_0 : decode cX6_drawn 0 = .ok (.aload_n 0, 1) := by decide +kernel
theorem dX6_drawn_1 : decode cX6_drawn 1 = .ok (.getfield 7, 3) := by decide +kernel
theorem dX6_drawn_4 : decode cX6_drawn 4 = .ok (.iconst 2, 1) := by decide +kernel
theorem dX6_drawn_5 : decode cX6_drawn 5 = .ok (.aload_n 0, 1) := by decide +kernel
theorem dX6_drawn_6 : decode cX6_drawn 6 = .ok (.getfield 7, 3) := by decide +kernel
theorem dX6_drawn_9 : decode cX6_drawn 9 = .ok (.iconst 2, 1) := by decide +kernel
theorem dX6_drawn_10 : decode cX6_drawn 10 = .ok (.iaload, 1) := by decide +kernel
theorem dX6_drawn_11 : decode cX6_drawn 11 = .ok (.ldc 217, 2) := by decide +kernel
theorem dX6_drawn_13 : decode cX6_drawn 13 = .ok (.imul, 1) := by decide +kernel
theorem dX6_drawn_14 : decode cX6_drawn 14 = .ok (.sipush 12345, 3) := by decide +kernel
theorem dX6_drawn_17 : decode cX6_drawn 17 = .ok (.iadd, 1) := by decide +kernel
theorem dX6_drawn_18 : decode cX6_drawn 18 = .ok (.iastore, 1) := by decide +kernel
theorem dX6_drawn_19 : decode cX6_drawn 19 = .ok (.aload_n 0, 1) := by decide +kernel
theorem dX6_drawn_20 : decode cX6_drawn 20 = .ok (.getfield 7, 3) := by decide +kernel
theorem dX6_drawn_23 : decode cX6_drawn 23 = .ok (.iconst 2, 1) := by decide +kernel
theorem dX6_drawn_24 : decode cX6_drawn 24 = .ok (.iaload, 1) := by decide +kernel
theorem dX6_drawn_25 : decode cX6_drawn 25 = .ok (.bipush 16, 2) := by decide +kernel
theorem dX6_drawn_27 : decode cX6_drawn 27 = .ok (.iushr, 1) := by decide +kernel
theorem dX6_drawn_28 : decode cX6_drawn 28 = .ok (.ireturn, 1) := by decide +kernel
theorem dX6_step_0 : decode cX6_step 0 = .ok (.aload_n 0, 1) := by decide +kernel
theorem dX6_step_1 : decode cX6_step 1 = .ok (.invokevirtual 218, 3) := by decide +kernel
theorem dX6_step_4 : decode cX6_step 4 = .ok (.bipush 100, 2) := by decide +kernel
theorem dX6_step_6 : decode cX6_step 6 = .ok (.irem, 1) := by decide +kernel
theorem dX6_step_7 : decode cX6_step 7 = .ok (.aload_n 0, 1) := by decide +kernel
theorem dX6_step_8 : decode cX6_step 8 = .ok (.getfield 7, 3) := by decide +kernel
theorem dX6_step_11 : decode cX6_step 11 = .ok (.bipush 7, 2) := by decide +kernel
theorem dX6_step_13 : decode cX6_step 13 = .ok (.iaload, 1) := by decide +kernel
theorem dX6_step_14 : decode cX6_step 14 = .ok (.if_icmp .ge 15, 3) := by decide +kernel
theorem dX6_step_17 : decode cX6_step 17 = .ok (.aload_n 0, 1) := by decide +kernel
theorem dX6_step_18 : decode cX6_step 18 = .ok (.getfield 7, 3) := by decide +kernel
theorem dX6_step_21 : decode cX6_step 21 = .ok (.iconst 3, 1) := by decide +kernel
theorem dX6_step_22 : decode cX6_step 22 = .ok (.aload_n 0, 1) := by decide +kernel
theorem dX6_step_23 : decode cX6_step 23 = .ok (.invokevirtual 218, 3) := by decide +kernel
theorem dX6_step_26 : decode cX6_step 26 = .ok (.iconst 4, 1) := by decide +kernel
theorem dX6_step_27 : decode cX6_step 27 = .ok (.irem, 1) := by decide +kernel
theorem dX6_step_28 : decode cX6_step 28 = .ok (.iastore, 1) := by decide +kernel
theorem dX6_step_29 : decode cX6_step 29 = .ok (.aload_n 0, 1) := by decide +kernel
theorem dX6_step_30 : decode cX6_step 30 = .ok (.invokevirtual 203, 3) := by decide +kernel
theorem dX6_step_33 : decode cX6_step 33 = .ok (.aload_n 0, 1) := by decide +kernel
theorem dX6_step_34 : decode cX6_step 34 = .ok (.invokevirtual 211, 3) := by decide +kernel
theorem dX6_step_37 : decode cX6_step 37 = .ok (.invokestatic 214, 3) := by decide +kernel
theorem dX6_step_40 : decode cX6_step 40 = .ok (.ireturn, 1) := by decide +kernel
theorem dX6_blown_0 : decode cX6_blown 0 = .ok (.iload_n 1, 1) := by decide +kernel
theorem dX6_blown_1 : decode cX6_blown 1 = .ok (.i2l, 1) := by decide +kernel
theorem dX6_blown_2 : decode cX6_blown 2 = .ok (.lconst 1, 1) := by decide +kernel
theorem dX6_blown_3 : decode cX6_blown 3 = .ok (.ldc2_w 221, 3) := by decide +kernel
theorem dX6_blown_6 : decode cX6_blown 6 = .ok (.invokestatic 70, 3) := by decide +kernel
theorem dX6_blown_9 : decode cX6_blown 9 = .ok (.ifCond .ne 5, 3) := by decide +kernel
theorem dX6_blown_12 : decode cX6_blown 12 = .ok (.iconst (-1), 1) := by decide +kernel
theorem dX6_blown_13 : decode cX6_blown 13 = .ok (.ireturn, 1) := by decide +kernel
theorem dX6_blown_14 : decode cX6_blown 14 = .ok (.aload_n 0, 1) := by decide +kernel
theorem dX6_blown_15 : decode cX6_blown 15 = .ok (.getfield 7, 3) := by decide +kernel
theorem dX6_blown_18 : decode cX6_blown 18 = .ok (.aload_n 0, 1) := by decide +kernel
theorem dX6_blown_19 : decode cX6_blown 19 = .ok (.getfield 16, 3) := by decide +kernel
theorem dX6_blown_22 : decode cX6_blown 22 = .ok (.invokestatic 158, 3) := by decide +kernel
theorem dX6_blown_25 : decode cX6_blown 25 = .ok (.aload_n 0, 1) := by decide +kernel
theorem dX6_blown_26 : decode cX6_blown 26 = .ok (.invokevirtual 203, 3) := by decide +kernel
theorem dX6_blown_29 : decode cX6_blown 29 = .ok (.iconst 0, 1) := by decide +kernel
theorem dX6_blown_30 : decode cX6_blown 30 = .ok (.istore_n 2, 1) := by decide +kernel
theorem dX6_blown_31 : decode cX6_blown 31 = .ok (.iload_n 2, 1) := by decide +kernel
theorem dX6_blown_32 : decode cX6_blown 32 = .ok (.aload_n 0, 1) := by decide +kernel
theorem dX6_blown_33 : decode cX6_blown 33 = .ok (.getfield 7, 3) := by decide +kernel
theorem dX6_blown_36 : decode cX6_blown 36 = .ok (.iconst 0, 1) := by decide +kernel
theorem dX6_blown_37 : decode cX6_blown 37 = .ok (.iaload, 1) := by decide +kernel
theorem dX6_blown_38 : decode cX6_blown 38 = .ok (.if_icmp .ge 21, 3) := by decide +kernel
theorem dX6_blown_41 : decode cX6_blown 41 = .ok (.aload_n 0, 1) := by decide +kernel
theorem dX6_blown_42 : decode cX6_blown 42 = .ok (.getfield 25, 3) := by decide +kernel
theorem dX6_blown_45 : decode cX6_blown 45 = .ok (.iload_n 2, 1) := by decide +kernel
theorem dX6_blown_46 : decode cX6_blown 46 = .ok (.aload_n 0, 1) := by decide +kernel
theorem dX6_blown_47 : decode cX6_blown 47 = .ok (.iload_n 2, 1) := by decide +kernel
theorem dX6_blown_48 : decode cX6_blown 48 = .ok (.iconst 3, 1) := by decide +kernel
theorem dX6_blown_49 : decode cX6_blown 49 = .ok (.invokevirtual 182, 3) := by decide +kernel
theorem dX6_blown_52 : decode cX6_blown 52 = .ok (.iastore, 1) := by decide +kernel
theorem dX6_blown_53 : decode cX6_blown 53 = .ok (.iinc 2 1, 3) := by decide +kernel
theorem dX6_blown_56 : decode cX6_blown 56 = .ok (.goto (-25), 3) := by decide +kernel
theorem dX6_blown_59 : decode cX6_blown 59 = .ok (.aload_n 0, 1) := by decide +kernel
theorem dX6_blown_60 : decode cX6_blown 60 = .ok (.getfield 16, 3) := by decide +kernel
theorem dX6_blown_63 : decode cX6_blown 63 = .ok (.iconst 2, 1) := by decide +kernel
theorem dX6_blown_64 : decode cX6_blown 64 = .ok (.iaload, 1) := by decide +kernel
theorem dX6_blown_65 : decode cX6_blown 65 = .ok (.istore_n 2, 1) := by decide +kernel
theorem dX6_blown_66 : decode cX6_blown 66 = .ok (.iconst 0, 1) := by decide +kernel
theorem dX6_blown_67 : decode cX6_blown 67 = .ok (.istore_n 3, 1) := by decide +kernel
theorem dX6_blown_68 : decode cX6_blown 68 = .ok (.iconst 0, 1) := by decide +kernel
theorem dX6_blown_69 : decode cX6_blown 69 = .ok (.istore 4, 2) := by decide +kernel
theorem dX6_blown_71 : decode cX6_blown 71 = .ok (.iload 4, 2) := by decide +kernel
theorem dX6_blown_73 : decode cX6_blown 73 = .ok (.iload_n 1, 1) := by decide +kernel
theorem dX6_blown_74 : decode cX6_blown 74 = .ok (.if_icmp .ge 103, 3) := by decide +kernel
theorem dX6_blown_77 : decode cX6_blown 77 = .ok (.aload_n 0, 1) := by decide +kernel
theorem dX6_blown_78 : decode cX6_blown 78 = .ok (.getfield 16, 3) := by decide +kernel
theorem dX6_blown_81 : decode cX6_blown 81 = .ok (.aload_n 0, 1) := by decide +kernel
theorem dX6_blown_82 : decode cX6_blown 82 = .ok (.getfield 7, 3) := by decide +kernel
theorem dX6_blown_85 : decode cX6_blown 85 = .ok (.invokestatic 158, 3) := by decide +kernel
theorem dX6_blown_88 : decode cX6_blown 88 = .ok (.aload_n 0, 1) := by decide +kernel
theorem dX6_blown_89 : decode cX6_blown 89 = .ok (.getfield 7, 3) := by decide +kernel
theorem dX6_blown_92 : decode cX6_blown 92 = .ok (.iconst 2, 1) := by decide +kernel
theorem dX6_blown_93 : decode cX6_blown 93 = .ok (.iload_n 2, 1) := by decide +kernel
theorem dX6_blown_94 : decode cX6_blown 94 = .ok (.iastore, 1) := by decide +kernel
theorem dX6_blown_95 : decode cX6_blown 95 = .ok (.aload_n 0, 1) := by decide +kernel
theorem dX6_blown_96 : decode cX6_blown 96 = .ok (.invokevirtual 223, 3) := by decide +kernel
theorem dX6_blown_99 : decode cX6_blown 99 = .ok (.istore 5, 2) := by decide +kernel
theorem dX6_blown_101 : decode cX6_blown 101 = .ok (.iconst 0, 1) := by decide +kernel
theorem dX6_blown_102 : decode cX6_blown 102 = .ok (.istore 6, 2) := by decide +kernel
theorem dX6_blown_104 : decode cX6_blown 104 = .ok (.iconst 0, 1) := by decide +kernel
theorem dX6_blown_105 : decode cX6_blown 105 = .ok (.istore 7, 2) := by decide +kernel
theorem dX6_blown_107 : decode cX6_blown 107 = .ok (.iload 7, 2) := by decide +kernel
theorem dX6_blown_109 : decode cX6_blown 109 = .ok (.aload_n 0, 1) := by decide +kernel
theorem dX6_blown_110 : decode cX6_blown 110 = .ok (.getfield 7, 3) := by decide +kernel
theorem dX6_blown_113 : decode cX6_blown 113 = .ok (.iconst 0, 1) := by decide +kernel
theorem dX6_blown_114 : decode cX6_blown 114 = .ok (.iaload, 1) := by decide +kernel
theorem dX6_blown_115 : decode cX6_blown 115 = .ok (.if_icmp .ge 36, 3) := by decide +kernel
theorem dX6_blown_118 : decode cX6_blown 118 = .ok (.iload 6, 2) := by decide +kernel
theorem dX6_blown_120 : decode cX6_blown 120 = .ok (.aload_n 0, 1) := by decide +kernel
theorem dX6_blown_121 : decode cX6_blown 121 = .ok (.iload 7, 2) := by decide +kernel
theorem dX6_blown_123 : decode cX6_blown 123 = .ok (.iconst 3, 1) := by decide +kernel
theorem dX6_blown_124 : decode cX6_blown 124 = .ok (.invokevirtual 182, 3) := by decide +kernel
theorem dX6_blown_127 : decode cX6_blown 127 = .ok (.aload_n 0, 1) := by decide +kernel
theorem dX6_blown_128 : decode cX6_blown 128 = .ok (.getfield 25, 3) := by decide +kernel
theorem dX6_blown_131 : decode cX6_blown 131 = .ok (.iload 7, 2) := by decide +kernel
theorem dX6_blown_133 : decode cX6_blown 133 = .ok (.iaload, 1) := by decide +kernel
theorem dX6_blown_134 : decode cX6_blown 134 = .ok (.if_icmp .eq 7, 3) := by decide +kernel
theorem dX6_blown_137 : decode cX6_blown 137 = .ok (.iconst 1, 1) := by decide +kernel
theorem dX6_blown_138 : decode cX6_blown 138 = .ok (.goto 4, 3) := by decide +kernel
theorem dX6_blown_141 : decode cX6_blown 141 = .ok (.iconst 0, 1) := by decide +kernel
theorem dX6_blown_142 : decode cX6_blown 142 = .ok (.ior, 1) := by decide +kernel
theorem dX6_blown_143 : decode cX6_blown 143 = .ok (.istore 6, 2) := by decide +kernel
theorem dX6_blown_145 : decode cX6_blown 145 = .ok (.iinc 7 1, 3) := by decide +kernel
theorem dX6_blown_148 : decode cX6_blown 148 = .ok (.goto (-41), 3) := by decide +kernel
theorem dX6_blown_151 : decode cX6_blown 151 = .ok (.iload_n 3, 1) := by decide +kernel
theorem dX6_blown_152 : decode cX6_blown 152 = .ok (.iload 6, 2) := by decide +kernel
theorem dX6_blown_154 : decode cX6_blown 154 = .ok (.ifCond .eq 7, 3) := by decide +kernel
theorem dX6_blown_157 : decode cX6_blown 157 = .ok (.iconst 1, 1) := by decide +kernel
theorem dX6_blown_158 : decode cX6_blown 158 = .ok (.goto 4, 3) := by decide +kernel
theorem dX6_blown_161 : decode cX6_blown 161 = .ok (.iconst 0, 1) := by decide +kernel
theorem dX6_blown_162 : decode cX6_blown 162 = .ok (.iadd, 1) := by decide +kernel
theorem dX6_blown_163 : decode cX6_blown 163 = .ok (.istore_n 3, 1) := by decide +kernel
theorem dX6_blown_164 : decode cX6_blown 164 = .ok (.aload_n 0, 1) := by decide +kernel
theorem dX6_blown_165 : decode cX6_blown 165 = .ok (.getfield 7, 3) := by decide +kernel
theorem dX6_blown_168 : decode cX6_blown 168 = .ok (.iconst 2, 1) := by decide +kernel
theorem dX6_blown_169 : decode cX6_blown 169 = .ok (.iaload, 1) := by decide +kernel
theorem dX6_blown_170 : decode cX6_blown 170 = .ok (.istore_n 2, 1) := by decide +kernel
theorem dX6_blown_171 : decode cX6_blown 171 = .ok (.iinc 4 1, 3) := by decide +kernel
theorem dX6_blown_174 : decode cX6_blown 174 = .ok (.goto (-103), 3) := by decide +kernel
theorem dX6_blown_177 : decode cX6_blown 177 = .ok (.aload_n 0, 1) := by decide +kernel
theorem dX6_blown_178 : decode cX6_blown 178 = .ok (.getfield 16, 3) := by decide +kernel
theorem dX6_blown_181 : decode cX6_blown 181 = .ok (.aload_n 0, 1) := by decide +kernel
theorem dX6_blown_182 : decode cX6_blown 182 = .ok (.getfield 7, 3) := by decide +kernel
theorem dX6_blown_185 : decode cX6_blown 185 = .ok (.invokestatic 158, 3) := by decide +kernel
theorem dX6_blown_188 : decode cX6_blown 188 = .ok (.iload_n 3, 1) := by decide +kernel
theorem dX6_blown_189 : decode cX6_blown 189 = .ok (.ireturn, 1) := by decide +kernel
theorem dX6_housesInUse_0 : decode cX6_housesInUse 0 = .ok (.iconst 0, 1) := by decide +kernel
theorem dX6_housesInUse_1 : decode cX6_housesInUse 1 = .ok (.istore_n 1, 1) := by decide +kernel
theorem dX6_housesInUse_2 : decode cX6_housesInUse 2 = .ok (.iconst 0, 1) := by decide +kernel
theorem dX6_housesInUse_3 : decode cX6_housesInUse 3 = .ok (.istore_n 2, 1) := by decide +kernel
theorem dX6_housesInUse_4 : decode cX6_housesInUse 4 = .ok (.iload_n 2, 1) := by decide +kernel
theorem dX6_housesInUse_5 : decode cX6_housesInUse 5 = .ok (.aload_n 0, 1) := by decide +kernel
theorem dX6_housesInUse_6 : decode cX6_housesInUse 6 = .ok (.getfield 7, 3) := by decide +kernel
theorem dX6_housesInUse_9 : decode cX6_housesInUse 9 = .ok (.iconst 0, 1) := by decide +kernel
theorem dX6_housesInUse_10 : decode cX6_housesInUse 10 = .ok (.iaload, 1) := by decide +kernel
theorem dX6_housesInUse_11 : decode cX6_housesInUse 11 = .ok (.if_icmp .ge 20, 3) := by decide +kernel
theorem dX6_housesInUse_14 : decode cX6_housesInUse 14 = .ok (.iload_n 1, 1) := by decide +kernel
theorem dX6_housesInUse_15 : decode cX6_housesInUse 15 = .ok (.iconst 1, 1) := by decide +kernel
theorem dX6_housesInUse_16 : decode cX6_housesInUse 16 = .ok (.aload_n 0, 1) := by decide +kernel
theorem dX6_housesInUse_17 : decode cX6_housesInUse 17 = .ok (.iload_n 2, 1) := by decide +kernel
theorem dX6_housesInUse_18 : decode cX6_housesInUse 18 = .ok (.iconst 3, 1) := by decide +kernel
theorem dX6_housesInUse_19 : decode cX6_housesInUse 19 = .ok (.invokevirtual 182, 3) := by decide +kernel
theorem dX6_housesInUse_22 : decode cX6_housesInUse 22 = .ok (.ishl, 1) := by decide +kernel
theorem dX6_housesInUse_23 : decode cX6_housesInUse 23 = .ok (.ior, 1) := by decide +kernel
theorem dX6_housesInUse_24 : decode cX6_housesInUse 24 = .ok (.istore_n 1, 1) := by decide +kernel
theorem dX6_housesInUse_25 : decode cX6_housesInUse 25 = .ok (.iinc 2 1, 3) := by decide +kernel
theorem dX6_housesInUse_28 : decode cX6_housesInUse 28 = .ok (.goto (-24), 3) := by decide +kernel
theorem dX6_housesInUse_31 : decode cX6_housesInUse 31 = .ok (.iload_n 1, 1) := by decide +kernel
theorem dX6_housesInUse_32 : decode cX6_housesInUse 32 = .ok (.ireturn, 1) := by decide +kernel
theorem dX6_wetBy_0 : decode cX6_wetBy 0 = .ok (.iconst 0, 1) := by decide +kernel
theorem dX6_wetBy_1 : decode cX6_wetBy 1 = .ok (.istore_n 2, 1) := by decide +kernel
theorem dX6_wetBy_2 : decode cX6_wetBy 2 = .ok (.iconst 0, 1) := by decide +kernel
theorem dX6_wetBy_3 : decode cX6_wetBy 3 = .ok (.istore_n 3, 1) := by decide +kernel
theorem dX6_wetBy_4 : decode cX6_wetBy 4 = .ok (.iload_n 3, 1) := by decide +kernel
theorem dX6_wetBy_5 : decode cX6_wetBy 5 = .ok (.bipush 16, 2) := by decide +kernel
theorem dX6_wetBy_7 : decode cX6_wetBy 7 = .ok (.if_icmp .ge 32, 3) := by decide +kernel
theorem dX6_wetBy_10 : decode cX6_wetBy 10 = .ok (.iload_n 2, 1) := by decide +kernel
theorem dX6_wetBy_11 : decode cX6_wetBy 11 = .ok (.aload_n 0, 1) := by decide +kernel
theorem dX6_wetBy_12 : decode cX6_wetBy 12 = .ok (.getfield 7, 3) := by decide +kernel
theorem dX6_wetBy_15 : decode cX6_wetBy 15 = .ok (.bipush 8, 2) := by decide +kernel
theorem dX6_wetBy_17 : decode cX6_wetBy 17 = .ok (.iload_n 3, 1) := by decide +kernel
theorem dX6_wetBy_18 : decode cX6_wetBy 18 = .ok (.iadd, 1) := by decide +kernel
theorem dX6_wetBy_19 : decode cX6_wetBy 19 = .ok (.iaload, 1) := by decide +kernel
theorem dX6_wetBy_20 : decode cX6_wetBy 20 = .ok (.iload_n 1, 1) := by decide +kernel
theorem dX6_wetBy_21 : decode cX6_wetBy 21 = .ok (.if_icmp .lt 9, 3) := by decide +kernel
theorem dX6_wetBy_24 : decode cX6_wetBy 24 = .ok (.iconst 1, 1) := by decide +kernel
theorem dX6_wetBy_25 : decode cX6_wetBy 25 = .ok (.iload_n 3, 1) := by decide +kernel
theorem dX6_wetBy_26 : decode cX6_wetBy 26 = .ok (.ishl, 1) := by decide +kernel
theorem dX6_wetBy_27 : decode cX6_wetBy 27 = .ok (.goto 4, 3) := by decide +kernel
theorem dX6_wetBy_30 : decode cX6_wetBy 30 = .ok (.iconst 0, 1) := by decide +kernel
theorem dX6_wetBy_31 : decode cX6_wetBy 31 = .ok (.ior, 1) := by decide +kernel
theorem dX6_wetBy_32 : decode cX6_wetBy 32 = .ok (.istore_n 2, 1) := by decide +kernel
theorem dX6_wetBy_33 : decode cX6_wetBy 33 = .ok (.iinc 3 1, 3) := by decide +kernel
theorem dX6_wetBy_36 : decode cX6_wetBy 36 = .ok (.goto (-32), 3) := by decide +kernel
theorem dX6_wetBy_39 : decode cX6_wetBy 39 = .ok (.iload_n 2, 1) := by decide +kernel
theorem dX6_wetBy_40 : decode cX6_wetBy 40 = .ok (.ireturn, 1) := by decide +kernel
theorem dX6_wetOfAll_0 : decode cX6_wetOfAll 0 = .ok (.iconst 0, 1) := by decide +kernel
theorem dX6_wetOfAll_1 : decode cX6_wetOfAll 1 = .ok (.istore_n 1, 1) := by decide +kernel
theorem dX6_wetOfAll_2 : decode cX6_wetOfAll 2 = .ok (.iconst 0, 1) := by decide +kernel
theorem dX6_wetOfAll_3 : decode cX6_wetOfAll 3 = .ok (.istore_n 2, 1) := by decide +kernel
theorem dX6_wetOfAll_4 : decode cX6_wetOfAll 4 = .ok (.iload_n 2, 1) := by decide +kernel
theorem dX6_wetOfAll_5 : decode cX6_wetOfAll 5 = .ok (.bipush 16, 2) := by decide +kernel
theorem dX6_wetOfAll_7 : decode cX6_wetOfAll 7 = .ok (.if_icmp .ge 21, 3) := by decide +kernel
theorem dX6_wetOfAll_10 : decode cX6_wetOfAll 10 = .ok (.iload_n 1, 1) := by decide +kernel
theorem dX6_wetOfAll_11 : decode cX6_wetOfAll 11 = .ok (.aload_n 0, 1) := by decide +kernel
theorem dX6_wetOfAll_12 : decode cX6_wetOfAll 12 = .ok (.getfield 7, 3) := by decide +kernel
theorem dX6_wetOfAll_15 : decode cX6_wetOfAll 15 = .ok (.bipush 8, 2) := by decide +kernel
theorem dX6_wetOfAll_17 : decode cX6_wetOfAll 17 = .ok (.iload_n 2, 1) := by decide +kernel
theorem dX6_wetOfAll_18 : decode cX6_wetOfAll 18 = .ok (.iadd, 1) := by decide +kernel
theorem dX6_wetOfAll_19 : decode cX6_wetOfAll 19 = .ok (.iaload, 1) := by decide +kernel
theorem dX6_wetOfAll_20 : decode cX6_wetOfAll 20 = .ok (.iadd, 1) := by decide +kernel
theorem dX6_wetOfAll_21 : decode cX6_wetOfAll 21 = .ok (.istore_n 1, 1) := by decide +kernel
theorem dX6_wetOfAll_22 : decode cX6_wetOfAll 22 = .ok (.iinc 2 1, 3) := by decide +kernel
theorem dX6_wetOfAll_25 : decode cX6_wetOfAll 25 = .ok (.goto (-21), 3) := by decide +kernel
theorem dX6_wetOfAll_28 : decode cX6_wetOfAll 28 = .ok (.iload_n 1, 1) := by decide +kernel
theorem dX6_wetOfAll_29 : decode cX6_wetOfAll 29 = .ok (.ireturn, 1) := by decide +kernel
theorem dX6_state_0 : decode cX6_state 0 = .ok (.iload_n 1, 1) := by decide +kernel
theorem dX6_state_1 : decode cX6_state 1 = .ok (.tableswitch 79 0 5 #[39, 46, 53, 58, 63, 68], 39) := by decide +kernel
theorem dX6_state_40 : decode cX6_state 40 = .ok (.aload_n 0, 1) := by decide +kernel
theorem dX6_state_41 : decode cX6_state 41 = .ok (.getfield 7, 3) := by decide +kernel
theorem dX6_state_44 : decode cX6_state 44 = .ok (.iconst 1, 1) := by decide +kernel
theorem dX6_state_45 : decode cX6_state 45 = .ok (.iaload, 1) := by decide +kernel
theorem dX6_state_46 : decode cX6_state 46 = .ok (.ireturn, 1) := by decide +kernel
theorem dX6_state_47 : decode cX6_state 47 = .ok (.aload_n 0, 1) := by decide +kernel
theorem dX6_state_48 : decode cX6_state 48 = .ok (.getfield 7, 3) := by decide +kernel
theorem dX6_state_51 : decode cX6_state 51 = .ok (.iconst 3, 1) := by decide +kernel
theorem dX6_state_52 : decode cX6_state 52 = .ok (.iaload, 1) := by decide +kernel
theorem dX6_state_53 : decode cX6_state 53 = .ok (.ireturn, 1) := by decide +kernel
theorem dX6_state_54 : decode cX6_state 54 = .ok (.aload_n 0, 1) := by decide +kernel
theorem dX6_state_55 : decode cX6_state 55 = .ok (.invokevirtual 226, 3) := by decide +kernel
theorem dX6_state_58 : decode cX6_state 58 = .ok (.ireturn, 1) := by decide +kernel
theorem dX6_state_59 : decode cX6_state 59 = .ok (.aload_n 0, 1) := by decide +kernel
theorem dX6_state_60 : decode cX6_state 60 = .ok (.invokevirtual 229, 3) := by decide +kernel
theorem dX6_state_63 : decode cX6_state 63 = .ok (.ireturn, 1) := by decide +kernel
theorem dX6_state_64 : decode cX6_state 64 = .ok (.aload_n 0, 1) := by decide +kernel
theorem dX6_state_65 : decode cX6_state 65 = .ok (.invokevirtual 211, 3) := by decide +kernel
theorem dX6_state_68 : decode cX6_state 68 = .ok (.ireturn, 1) := by decide +kernel
theorem dX6_state_69 : decode cX6_state 69 = .ok (.aload_n 0, 1) := by decide +kernel
theorem dX6_state_70 : decode cX6_state 70 = .ok (.aload_n 0, 1) := by decide +kernel
theorem dX6_state_71 : decode cX6_state 71 = .ok (.getfield 7, 3) := by decide +kernel
theorem dX6_state_74 : decode cX6_state 74 = .ok (.iconst 5, 1) := by decide +kernel
theorem dX6_state_75 : decode cX6_state 75 = .ok (.iaload, 1) := by decide +kernel
theorem dX6_state_76 : decode cX6_state 76 = .ok (.invokevirtual 232, 3) := by decide +kernel
theorem dX6_state_79 : decode cX6_state 79 = .ok (.ireturn, 1) := by decide +kernel
theorem dX6_state_80 : decode cX6_state 80 = .ok (.iconst (-1), 1) := by decide +kernel
theorem dX6_state_81 : decode cX6_state 81 = .ok (.ireturn, 1) := by decide +kernel
theorem dX6_whereBehind_0 : decode cX6_whereBehind 0 = .ok (.aload_n 0, 1) := by decide +kernel
theorem dX6_whereBehind_1 : decode cX6_whereBehind 1 = .ok (.getfield 7, 3) := by decide +kernel
end
section
theorem dX6_whereBehind_4 : decode cX6_whereBehind 4 = .ok (.aload_n 0, 1) := by decide +kernel
theorem dX6_whereBehind_5 : decode cX6_whereBehind 5 = .ok (.getfield 16, 3) := by decide +kernel
theorem dX6_whereBehind_8 : decode cX6_whereBehind 8 = .ok (.invokestatic 158, 3) := by decide +kernel
theorem dX6_whereBehind_11 : decode cX6_whereBehind 11 = .ok (.aload_n 0, 1) := by decide +kernel
theorem dX6_whereBehind_12 : decode cX6_whereBehind 12 = .ok (.iload_n 2, 1) := by decide +kernel
theorem dX6_whereBehind_13 : decode cX6_whereBehind 13 = .ok (.invokevirtual 208, 3) := by decide +kernel
theorem dX6_whereBehind_16 : decode cX6_whereBehind 16 = .ok (.aload_n 0, 1) := by decide +kernel
theorem dX6_whereBehind_17 : decode cX6_whereBehind 17 = .ok (.iload_n 1, 1) := by decide +kernel
theorem dX6_whereBehind_18 : decode cX6_whereBehind 18 = .ok (.iconst 3, 1) := by decide +kernel
theorem dX6_whereBehind_19 : decode cX6_whereBehind 19 = .ok (.invokevirtual 182, 3) := by decide +kernel
theorem dX6_whereBehind_22 : decode cX6_whereBehind 22 = .ok (.istore_n 3, 1) := by decide +kernel
theorem dX6_whereBehind_23 : decode cX6_whereBehind 23 = .ok (.aload_n 0, 1) := by decide +kernel
theorem dX6_whereBehind_24 : decode cX6_whereBehind 24 = .ok (.getfield 16, 3) := by decide +kernel
theorem dX6_whereBehind_27 : decode cX6_whereBehind 27 = .ok (.aload_n 0, 1) := by decide +kernel
theorem dX6_whereBehind_28 : decode cX6_whereBehind 28 = .ok (.getfield 7, 3) := by decide +kernel
theorem dX6_whereBehind_31 : decode cX6_whereBehind 31 = .ok (.invokestatic 158, 3) := by decide +kernel
theorem dX6_whereBehind_34 : decode cX6_whereBehind 34 = .ok (.iload_n 3, 1) := by decide +kernel
theorem dX6_whereBehind_35 : decode cX6_whereBehind 35 = .ok (.ireturn, 1) := by decide +kernel
theorem dX6_where_0 : decode cX6_where 0 = .ok (.aload_n 0, 1) := by decide +kernel
theorem dX6_where_1 : decode cX6_where 1 = .ok (.iload_n 1, 1) := by decide +kernel
theorem dX6_where_2 : decode cX6_where 2 = .ok (.invokevirtual 191, 3) := by decide +kernel
theorem dX6_where_5 : decode cX6_where 5 = .ok (.ifCond .eq 24, 3) := by decide +kernel
theorem dX6_where_8 : decode cX6_where 8 = .ok (.iload_n 2, 1) := by decide +kernel
theorem dX6_where_9 : decode cX6_where 9 = .ok (.i2l, 1) := by decide +kernel
theorem dX6_where_10 : decode cX6_where 10 = .ok (.lconst 0, 1) := by decide +kernel
theorem dX6_where_11 : decode cX6_where 11 = .ok (.ldc2_w 206, 3) := by decide +kernel
theorem dX6_where_14 : decode cX6_where 14 = .ok (.invokestatic 70, 3) := by decide +kernel
theorem dX6_where_17 : decode cX6_where 17 = .ok (.ifCond .eq 12, 3) := by decide +kernel
theorem dX6_where_20 : decode cX6_where 20 = .ok (.aload_n 0, 1) := by decide +kernel
theorem dX6_where_21 : decode cX6_where 21 = .ok (.iload_n 1, 1) := by decide +kernel
theorem dX6_where_22 : decode cX6_where 22 = .ok (.iload_n 2, 1) := by decide +kernel
theorem dX6_where_23 : decode cX6_where 23 = .ok (.invokevirtual 235, 3) := by decide +kernel
theorem dX6_where_26 : decode cX6_where 26 = .ok (.goto 4, 3) := by decide +kernel
theorem dX6_where_29 : decode cX6_where 29 = .ok (.iconst (-1), 1) := by decide +kernel
theorem dX6_where_30 : decode cX6_where 30 = .ok (.ireturn, 1) := by decide +kernel
theorem dX6_stops_0 : decode cX6_stops 0 = .ok (.aload_n 0, 1) := by decide +kernel
theorem dX6_stops_1 : decode cX6_stops 1 = .ok (.iload_n 1, 1) := by decide +kernel
theorem dX6_stops_2 : decode cX6_stops 2 = .ok (.invokevirtual 191, 3) := by decide +kernel
theorem dX6_stops_5 : decode cX6_stops 5 = .ok (.ifCond .ne 5, 3) := by decide +kernel
theorem dX6_stops_8 : decode cX6_stops 8 = .ok (.iconst (-1), 1) := by decide +kernel
theorem dX6_stops_9 : decode cX6_stops 9 = .ok (.ireturn, 1) := by decide +kernel
theorem dX6_stops_10 : decode cX6_stops 10 = .ok (.aload_n 0, 1) := by decide +kernel
theorem dX6_stops_11 : decode cX6_stops 11 = .ok (.getfield 7, 3) := by decide +kernel
theorem dX6_stops_14 : decode cX6_stops 14 = .ok (.aload_n 0, 1) := by decide +kernel
theorem dX6_stops_15 : decode cX6_stops 15 = .ok (.getfield 16, 3) := by decide +kernel
theorem dX6_stops_18 : decode cX6_stops 18 = .ok (.invokestatic 158, 3) := by decide +kernel
theorem dX6_stops_21 : decode cX6_stops 21 = .ok (.iconst 0, 1) := by decide +kernel
theorem dX6_stops_22 : decode cX6_stops 22 = .ok (.istore_n 2, 1) := by decide +kernel
theorem dX6_stops_23 : decode cX6_stops 23 = .ok (.iload_n 2, 1) := by decide +kernel
theorem dX6_stops_24 : decode cX6_stops 24 = .ok (.bipush 60, 2) := by decide +kernel
theorem dX6_stops_26 : decode cX6_stops 26 = .ok (.if_icmp .gt 28, 3) := by decide +kernel
theorem dX6_stops_29 : decode cX6_stops 29 = .ok (.aload_n 0, 1) := by decide +kernel
theorem dX6_stops_30 : decode cX6_stops 30 = .ok (.iload_n 1, 1) := by decide +kernel
theorem dX6_stops_31 : decode cX6_stops 31 = .ok (.iconst 3, 1) := by decide +kernel
theorem dX6_stops_32 : decode cX6_stops 32 = .ok (.invokevirtual 182, 3) := by decide +kernel
theorem dX6_stops_35 : decode cX6_stops 35 = .ok (.aload_n 0, 1) := by decide +kernel
theorem dX6_stops_36 : decode cX6_stops 36 = .ok (.iload_n 1, 1) := by decide +kernel
theorem dX6_stops_37 : decode cX6_stops 37 = .ok (.iconst 2, 1) := by decide +kernel
theorem dX6_stops_38 : decode cX6_stops 38 = .ok (.invokevirtual 182, 3) := by decide +kernel
theorem dX6_stops_41 : decode cX6_stops 41 = .ok (.if_icmp .eq 13, 3) := by decide +kernel
theorem dX6_stops_44 : decode cX6_stops 44 = .ok (.aload_n 0, 1) := by decide +kernel
theorem dX6_stops_45 : decode cX6_stops 45 = .ok (.invokevirtual 203, 3) := by decide +kernel
theorem dX6_stops_48 : decode cX6_stops 48 = .ok (.iinc 2 1, 3) := by decide +kernel
theorem dX6_stops_51 : decode cX6_stops 51 = .ok (.goto (-28), 3) := by decide +kernel
theorem dX6_stops_54 : decode cX6_stops 54 = .ok (.aload_n 0, 1) := by decide +kernel
theorem dX6_stops_55 : decode cX6_stops 55 = .ok (.getfield 16, 3) := by decide +kernel
theorem dX6_stops_58 : decode cX6_stops 58 = .ok (.aload_n 0, 1) := by decide +kernel
theorem dX6_stops_59 : decode cX6_stops 59 = .ok (.getfield 7, 3) := by decide +kernel
theorem dX6_stops_62 : decode cX6_stops 62 = .ok (.invokestatic 158, 3) := by decide +kernel
theorem dX6_stops_65 : decode cX6_stops 65 = .ok (.iload_n 2, 1) := by decide +kernel
theorem dX6_stops_66 : decode cX6_stops 66 = .ok (.bipush 60, 2) := by decide +kernel
theorem dX6_stops_68 : decode cX6_stops 68 = .ok (.if_icmp .gt 7, 3) := by decide +kernel
theorem dX6_stops_71 : decode cX6_stops 71 = .ok (.iload_n 2, 1) := by decide +kernel
theorem dX6_stops_72 : decode cX6_stops 72 = .ok (.goto 5, 3) := by decide +kernel
theorem dX6_stops_75 : decode cX6_stops 75 = .ok (.bipush (-3), 2) := by decide +kernel
theorem dX6_stops_77 : decode cX6_stops 77 = .ok (.ireturn, 1) := by decide +kernel
theorem dX6_meets_0 : decode cX6_meets 0 = .ok (.aload_n 0, 1) := by decide +kernel
theorem dX6_meets_1 : decode cX6_meets 1 = .ok (.iload_n 1, 1) := by decide +kernel
theorem dX6_meets_2 : decode cX6_meets 2 = .ok (.invokevirtual 191, 3) := by decide +kernel
theorem dX6_meets_5 : decode cX6_meets 5 = .ok (.ifCond .eq 16, 3) := by decide +kernel
theorem dX6_meets_8 : decode cX6_meets 8 = .ok (.aload_n 0, 1) := by decide +kernel
theorem dX6_meets_9 : decode cX6_meets 9 = .ok (.iload_n 2, 1) := by decide +kernel
theorem dX6_meets_10 : decode cX6_meets 10 = .ok (.invokevirtual 191, 3) := by decide +kernel
theorem dX6_meets_13 : decode cX6_meets 13 = .ok (.ifCond .eq 8, 3) := by decide +kernel
theorem dX6_meets_16 : decode cX6_meets 16 = .ok (.iload_n 1, 1) := by decide +kernel
theorem dX6_meets_17 : decode cX6_meets 17 = .ok (.iload_n 2, 1) := by decide +kernel
theorem dX6_meets_18 : decode cX6_meets 18 = .ok (.if_icmp .ne 5, 3) := by decide +kernel
theorem dX6_meets_21 : decode cX6_meets 21 = .ok (.iconst (-1), 1) := by decide +kernel
theorem dX6_meets_22 : decode cX6_meets 22 = .ok (.ireturn, 1) := by decide +kernel
theorem dX6_meets_23 : decode cX6_meets 23 = .ok (.aload_n 0, 1) := by decide +kernel
theorem dX6_meets_24 : decode cX6_meets 24 = .ok (.getfield 7, 3) := by decide +kernel
theorem dX6_meets_27 : decode cX6_meets 27 = .ok (.aload_n 0, 1) := by decide +kernel
theorem dX6_meets_28 : decode cX6_meets 28 = .ok (.getfield 16, 3) := by decide +kernel
theorem dX6_meets_31 : decode cX6_meets 31 = .ok (.invokestatic 158, 3) := by decide +kernel
theorem dX6_meets_34 : decode cX6_meets 34 = .ok (.iconst 0, 1) := by decide +kernel
theorem dX6_meets_35 : decode cX6_meets 35 = .ok (.istore_n 3, 1) := by decide +kernel
theorem dX6_meets_36 : decode cX6_meets 36 = .ok (.iload_n 3, 1) := by decide +kernel
theorem dX6_meets_37 : decode cX6_meets 37 = .ok (.bipush 60, 2) := by decide +kernel
theorem dX6_meets_39 : decode cX6_meets 39 = .ok (.if_icmp .gt 28, 3) := by decide +kernel
theorem dX6_meets_42 : decode cX6_meets 42 = .ok (.aload_n 0, 1) := by decide +kernel
theorem dX6_meets_43 : decode cX6_meets 43 = .ok (.iload_n 1, 1) := by decide +kernel
theorem dX6_meets_44 : decode cX6_meets 44 = .ok (.iconst 3, 1) := by decide +kernel
theorem dX6_meets_45 : decode cX6_meets 45 = .ok (.invokevirtual 182, 3) := by decide +kernel
theorem dX6_meets_48 : decode cX6_meets 48 = .ok (.aload_n 0, 1) := by decide +kernel
theorem dX6_meets_49 : decode cX6_meets 49 = .ok (.iload_n 2, 1) := by decide +kernel
theorem dX6_meets_50 : decode cX6_meets 50 = .ok (.iconst 3, 1) := by decide +kernel
theorem dX6_meets_51 : decode cX6_meets 51 = .ok (.invokevirtual 182, 3) := by decide +kernel
theorem dX6_meets_54 : decode cX6_meets 54 = .ok (.if_icmp .eq 13, 3) := by decide +kernel
theorem dX6_meets_57 : decode cX6_meets 57 = .ok (.aload_n 0, 1) := by decide +kernel
theorem dX6_meets_58 : decode cX6_meets 58 = .ok (.invokevirtual 203, 3) := by decide +kernel
theorem dX6_meets_61 : decode cX6_meets 61 = .ok (.iinc 3 1, 3) := by decide +kernel
theorem dX6_meets_64 : decode cX6_meets 64 = .ok (.goto (-28), 3) := by decide +kernel
theorem dX6_meets_67 : decode cX6_meets 67 = .ok (.aload_n 0, 1) := by decide +kernel
theorem dX6_meets_68 : decode cX6_meets 68 = .ok (.getfield 16, 3) := by decide +kernel
theorem dX6_meets_71 : decode cX6_meets 71 = .ok (.aload_n 0, 1) := by decide +kernel
theorem dX6_meets_72 : decode cX6_meets 72 = .ok (.getfield 7, 3) := by decide +kernel
theorem dX6_meets_75 : decode cX6_meets 75 = .ok (.invokestatic 158, 3) := by decide +kernel
theorem dX6_meets_78 : decode cX6_meets 78 = .ok (.iload_n 3, 1) := by decide +kernel
theorem dX6_meets_79 : decode cX6_meets 79 = .ok (.bipush 60, 2) := by decide +kernel
theorem dX6_meets_81 : decode cX6_meets 81 = .ok (.if_icmp .gt 7, 3) := by decide +kernel
theorem dX6_meets_84 : decode cX6_meets 84 = .ok (.iload_n 3, 1) := by decide +kernel
theorem dX6_meets_85 : decode cX6_meets 85 = .ok (.goto 5, 3) := by decide +kernel
theorem dX6_meets_88 : decode cX6_meets 88 = .ok (.bipush (-3), 2) := by decide +kernel
theorem dX6_meets_90 : decode cX6_meets 90 = .ok (.ireturn, 1) := by decide +kernel
theorem dX6_told_0 : decode cX6_told 0 = .ok (.aload_n 0, 1) := by decide +kernel
theorem dX6_told_1 : decode cX6_told 1 = .ok (.iload_n 1, 1) := by decide +kernel
theorem dX6_told_2 : decode cX6_told 2 = .ok (.invokevirtual 191, 3) := by decide +kernel
theorem dX6_told_5 : decode cX6_told 5 = .ok (.ifCond .ne 5, 3) := by decide +kernel
theorem dX6_told_8 : decode cX6_told 8 = .ok (.iconst (-1), 1) := by decide +kernel
theorem dX6_told_9 : decode cX6_told 9 = .ok (.ireturn, 1) := by decide +kernel
theorem dX6_told_10 : decode cX6_told 10 = .ok (.aload_n 0, 1) := by decide +kernel
theorem dX6_told_11 : decode cX6_told 11 = .ok (.getfield 7, 3) := by decide +kernel
theorem dX6_told_14 : decode cX6_told 14 = .ok (.aload_n 0, 1) := by decide +kernel
theorem dX6_told_15 : decode cX6_told 15 = .ok (.getfield 16, 3) := by decide +kernel
theorem dX6_told_18 : decode cX6_told 18 = .ok (.invokestatic 158, 3) := by decide +kernel
theorem dX6_told_21 : decode cX6_told 21 = .ok (.aload_n 0, 1) := by decide +kernel
theorem dX6_told_22 : decode cX6_told 22 = .ok (.getfield 7, 3) := by decide +kernel
theorem dX6_told_25 : decode cX6_told 25 = .ok (.bipush 24, 2) := by decide +kernel
theorem dX6_told_27 : decode cX6_told 27 = .ok (.iconst 4, 1) := by decide +kernel
theorem dX6_told_28 : decode cX6_told 28 = .ok (.iload_n 1, 1) := by decide +kernel
theorem dX6_told_29 : decode cX6_told 29 = .ok (.imul, 1) := by decide +kernel
theorem dX6_told_30 : decode cX6_told 30 = .ok (.iadd, 1) := by decide +kernel
theorem dX6_told_31 : decode cX6_told 31 = .ok (.iconst 0, 1) := by decide +kernel
theorem dX6_told_32 : decode cX6_told 32 = .ok (.iastore, 1) := by decide +kernel
theorem dX6_told_33 : decode cX6_told 33 = .ok (.iconst 0, 1) := by decide +kernel
theorem dX6_told_34 : decode cX6_told 34 = .ok (.istore_n 2, 1) := by decide +kernel
theorem dX6_told_35 : decode cX6_told 35 = .ok (.iload_n 2, 1) := by decide +kernel
theorem dX6_told_36 : decode cX6_told 36 = .ok (.bipush 60, 2) := by decide +kernel
theorem dX6_told_38 : decode cX6_told 38 = .ok (.if_icmp .gt 25, 3) := by decide +kernel
theorem dX6_told_41 : decode cX6_told 41 = .ok (.aload_n 0, 1) := by decide +kernel
theorem dX6_told_42 : decode cX6_told 42 = .ok (.getfield 28, 3) := by decide +kernel
theorem dX6_told_45 : decode cX6_told 45 = .ok (.iload_n 2, 1) := by decide +kernel
theorem dX6_told_46 : decode cX6_told 46 = .ok (.aload_n 0, 1) := by decide +kernel
theorem dX6_told_47 : decode cX6_told 47 = .ok (.iload_n 1, 1) := by decide +kernel
theorem dX6_told_48 : decode cX6_told 48 = .ok (.iconst 3, 1) := by decide +kernel
theorem dX6_told_49 : decode cX6_told 49 = .ok (.invokevirtual 182, 3) := by decide +kernel
theorem dX6_told_52 : decode cX6_told 52 = .ok (.iastore, 1) := by decide +kernel
theorem dX6_told_53 : decode cX6_told 53 = .ok (.aload_n 0, 1) := by decide +kernel
theorem dX6_told_54 : decode cX6_told 54 = .ok (.invokevirtual 203, 3) := by decide +kernel
theorem dX6_told_57 : decode cX6_told 57 = .ok (.iinc 2 1, 3) := by decide +kernel
theorem dX6_told_60 : decode cX6_told 60 = .ok (.goto (-25), 3) := by decide +kernel
theorem dX6_told_63 : decode cX6_told 63 = .ok (.aload_n 0, 1) := by decide +kernel
theorem dX6_told_64 : decode cX6_told 64 = .ok (.getfield 16, 3) := by decide +kernel
theorem dX6_told_67 : decode cX6_told 67 = .ok (.aload_n 0, 1) := by decide +kernel
theorem dX6_told_68 : decode cX6_told 68 = .ok (.getfield 7, 3) := by decide +kernel
theorem dX6_told_71 : decode cX6_told 71 = .ok (.invokestatic 158, 3) := by decide +kernel
theorem dX6_told_74 : decode cX6_told 74 = .ok (.iconst 0, 1) := by decide +kernel
theorem dX6_told_75 : decode cX6_told 75 = .ok (.istore_n 2, 1) := by decide +kernel
theorem dX6_told_76 : decode cX6_told 76 = .ok (.iload_n 2, 1) := by decide +kernel
theorem dX6_told_77 : decode cX6_told 77 = .ok (.bipush 60, 2) := by decide +kernel
theorem dX6_told_79 : decode cX6_told 79 = .ok (.if_icmp .gt 28, 3) := by decide +kernel
theorem dX6_told_82 : decode cX6_told 82 = .ok (.aload_n 0, 1) := by decide +kernel
theorem dX6_told_83 : decode cX6_told 83 = .ok (.iload_n 1, 1) := by decide +kernel
theorem dX6_told_84 : decode cX6_told 84 = .ok (.iconst 3, 1) := by decide +kernel
theorem dX6_told_85 : decode cX6_told 85 = .ok (.invokevirtual 182, 3) := by decide +kernel
theorem dX6_told_88 : decode cX6_told 88 = .ok (.aload_n 0, 1) := by decide +kernel
theorem dX6_told_89 : decode cX6_told 89 = .ok (.getfield 28, 3) := by decide +kernel
theorem dX6_told_92 : decode cX6_told 92 = .ok (.iload_n 2, 1) := by decide +kernel
theorem dX6_told_93 : decode cX6_told 93 = .ok (.iaload, 1) := by decide +kernel
theorem dX6_told_94 : decode cX6_told 94 = .ok (.if_icmp .ne 13, 3) := by decide +kernel
theorem dX6_told_97 : decode cX6_told 97 = .ok (.aload_n 0, 1) := by decide +kernel
theorem dX6_told_98 : decode cX6_told 98 = .ok (.invokevirtual 203, 3) := by decide +kernel
theorem dX6_told_101 : decode cX6_told 101 = .ok (.iinc 2 1, 3) := by decide +kernel
theorem dX6_told_104 : decode cX6_told 104 = .ok (.goto (-28), 3) := by decide +kernel
theorem dX6_told_107 : decode cX6_told 107 = .ok (.aload_n 0, 1) := by decide +kernel
theorem dX6_told_108 : decode cX6_told 108 = .ok (.getfield 16, 3) := by decide +kernel
theorem dX6_told_111 : decode cX6_told 111 = .ok (.aload_n 0, 1) := by decide +kernel
theorem dX6_told_112 : decode cX6_told 112 = .ok (.getfield 7, 3) := by decide +kernel
theorem dX6_told_115 : decode cX6_told 115 = .ok (.invokestatic 158, 3) := by decide +kernel
theorem dX6_told_118 : decode cX6_told 118 = .ok (.iload_n 2, 1) := by decide +kernel
theorem dX6_told_119 : decode cX6_told 119 = .ok (.bipush 60, 2) := by decide +kernel
theorem dX6_told_121 : decode cX6_told 121 = .ok (.if_icmp .gt 7, 3) := by decide +kernel
theorem dX6_told_124 : decode cX6_told 124 = .ok (.iload_n 2, 1) := by decide +kernel
theorem dX6_told_125 : decode cX6_told 125 = .ok (.goto 5, 3) := by decide +kernel
theorem dX6_told_128 : decode cX6_told 128 = .ok (.bipush (-3), 2) := by decide +kernel
theorem dX6_told_130 : decode cX6_told 130 = .ok (.ireturn, 1) := by decide +kernel
theorem dX6_offNow_0 : decode cX6_offNow 0 = .ok (.aload_n 0, 1) := by decide +kernel
theorem dX6_offNow_1 : decode cX6_offNow 1 = .ok (.iload_n 1, 1) := by decide +kernel
theorem dX6_offNow_2 : decode cX6_offNow 2 = .ok (.iconst 3, 1) := by decide +kernel
theorem dX6_offNow_3 : decode cX6_offNow 3 = .ok (.invokevirtual 182, 3) := by decide +kernel
theorem dX6_offNow_6 : decode cX6_offNow 6 = .ok (.istore_n 2, 1) := by decide +kernel
theorem dX6_offNow_7 : decode cX6_offNow 7 = .ok (.aload_n 0, 1) := by decide +kernel
theorem dX6_offNow_8 : decode cX6_offNow 8 = .ok (.iload_n 1, 1) := by decide +kernel
theorem dX6_offNow_9 : decode cX6_offNow 9 = .ok (.iconst 2, 1) := by decide +kernel
theorem dX6_offNow_10 : decode cX6_offNow 10 = .ok (.invokevirtual 182, 3) := by decide +kernel
theorem dX6_offNow_13 : decode cX6_offNow 13 = .ok (.istore_n 3, 1) := by decide +kernel
theorem dX6_offNow_14 : decode cX6_offNow 14 = .ok (.iload_n 2, 1) := by decide +kernel
theorem dX6_offNow_15 : decode cX6_offNow 15 = .ok (.iconst 4, 1) := by decide +kernel
theorem dX6_offNow_16 : decode cX6_offNow 16 = .ok (.irem, 1) := by decide +kernel
theorem dX6_offNow_17 : decode cX6_offNow 17 = .ok (.iload_n 3, 1) := by decide +kernel
theorem dX6_offNow_18 : decode cX6_offNow 18 = .ok (.iconst 4, 1) := by decide +kernel
theorem dX6_offNow_19 : decode cX6_offNow 19 = .ok (.irem, 1) := by decide +kernel
theorem dX6_offNow_20 : decode cX6_offNow 20 = .ok (.invokestatic 238, 3) := by decide +kernel
theorem dX6_offNow_23 : decode cX6_offNow 23 = .ok (.iload_n 2, 1) := by decide +kernel
theorem dX6_offNow_24 : decode cX6_offNow 24 = .ok (.iconst 4, 1) := by decide +kernel
theorem dX6_offNow_25 : decode cX6_offNow 25 = .ok (.idiv, 1) := by decide +kernel
theorem dX6_offNow_26 : decode cX6_offNow 26 = .ok (.iload_n 3, 1) := by decide +kernel
theorem dX6_offNow_27 : decode cX6_offNow 27 = .ok (.iconst 4, 1) := by decide +kernel
theorem dX6_offNow_28 : decode cX6_offNow 28 = .ok (.idiv, 1) := by decide +kernel
theorem dX6_offNow_29 : decode cX6_offNow 29 = .ok (.invokestatic 238, 3) := by decide +kernel
theorem dX6_offNow_32 : decode cX6_offNow 32 = .ok (.iadd, 1) := by decide +kernel
theorem dX6_offNow_33 : decode cX6_offNow 33 = .ok (.ireturn, 1) := by decide +kernel
theorem dX6_offBehind_0 : decode cX6_offBehind 0 = .ok (.aload_n 0, 1) := by decide +kernel
theorem dX6_offBehind_1 : decode cX6_offBehind 1 = .ok (.getfield 7, 3) := by decide +kernel
theorem dX6_offBehind_4 : decode cX6_offBehind 4 = .ok (.aload_n 0, 1) := by decide +kernel
theorem dX6_offBehind_5 : decode cX6_offBehind 5 = .ok (.getfield 16, 3) := by decide +kernel
theorem dX6_offBehind_8 : decode cX6_offBehind 8 = .ok (.invokestatic 158, 3) := by decide +kernel
theorem dX6_offBehind_11 : decode cX6_offBehind 11 = .ok (.aload_n 0, 1) := by decide +kernel
theorem dX6_offBehind_12 : decode cX6_offBehind 12 = .ok (.iload_n 2, 1) := by decide +kernel
theorem dX6_offBehind_13 : decode cX6_offBehind 13 = .ok (.invokevirtual 208, 3) := by decide +kernel
theorem dX6_offBehind_16 : decode cX6_offBehind 16 = .ok (.aload_n 0, 1) := by decide +kernel
theorem dX6_offBehind_17 : decode cX6_offBehind 17 = .ok (.iload_n 1, 1) := by decide +kernel
theorem dX6_offBehind_18 : decode cX6_offBehind 18 = .ok (.invokevirtual 241, 3) := by decide +kernel
theorem dX6_offBehind_21 : decode cX6_offBehind 21 = .ok (.istore_n 3, 1) := by decide +kernel
theorem dX6_offBehind_22 : decode cX6_offBehind 22 = .ok (.aload_n 0, 1) := by decide +kernel
theorem dX6_offBehind_23 : decode cX6_offBehind 23 = .ok (.getfield 16, 3) := by decide +kernel
theorem dX6_offBehind_26 : decode cX6_offBehind 26 = .ok (.aload_n 0, 1) := by decide +kernel
theorem dX6_offBehind_27 : decode cX6_offBehind 27 = .ok (.getfield 7, 3) := by decide +kernel
theorem dX6_offBehind_30 : decode cX6_offBehind 30 = .ok (.invokestatic 158, 3) := by decide +kernel
theorem dX6_offBehind_33 : decode cX6_offBehind 33 = .ok (.iload_n 3, 1) := by decide +kernel
theorem dX6_offBehind_34 : decode cX6_offBehind 34 = .ok (.ireturn, 1) := by decide +kernel
theorem dX6_off_0 : decode cX6_off 0 = .ok (.aload_n 0, 1) := by decide +kernel
theorem dX6_off_1 : decode cX6_off 1 = .ok (.iload_n 1, 1) := by decide +kernel
theorem dX6_off_2 : decode cX6_off 2 = .ok (.invokevirtual 191, 3) := by decide +kernel
theorem dX6_off_5 : decode cX6_off 5 = .ok (.ifCond .eq 24, 3) := by decide +kernel
theorem dX6_off_8 : decode cX6_off 8 = .ok (.iload_n 2, 1) := by decide +kernel
theorem dX6_off_9 : decode cX6_off 9 = .ok (.i2l, 1) := by decide +kernel
theorem dX6_off_10 : decode cX6_off 10 = .ok (.lconst 0, 1) := by decide +kernel
theorem dX6_off_11 : decode cX6_off 11 = .ok (.ldc2_w 206, 3) := by decide +kernel
theorem dX6_off_14 : decode cX6_off 14 = .ok (.invokestatic 70, 3) := by decide +kernel
theorem dX6_off_17 : decode cX6_off 17 = .ok (.ifCond .eq 12, 3) := by decide +kernel
theorem dX6_off_20 : decode cX6_off 20 = .ok (.aload_n 0, 1) := by decide +kernel
theorem dX6_off_21 : decode cX6_off 21 = .ok (.iload_n 1, 1) := by decide +kernel
theorem dX6_off_22 : decode cX6_off 22 = .ok (.iload_n 2, 1) := by decide +kernel
theorem dX6_off_23 : decode cX6_off 23 = .ok (.invokevirtual 244, 3) := by decide +kernel
theorem dX6_off_26 : decode cX6_off 26 = .ok (.goto 4, 3) := by decide +kernel
theorem dX6_off_29 : decode cX6_off 29 = .ok (.iconst (-1), 1) := by decide +kernel
theorem dX6_off_30 : decode cX6_off 30 = .ok (.ireturn, 1) := by decide +kernel
theorem dX6_isShort_0 : decode cX6_isShort 0 = .ok (.iload_n 0, 1) := by decide +kernel
theorem dX6_isShort_1 : decode cX6_isShort 1 = .ok (.i2l, 1) := by decide +kernel
theorem dX6_isShort_2 : decode cX6_isShort 2 = .ok (.lconst 1, 1) := by decide +kernel
theorem dX6_isShort_3 : decode cX6_isShort 3 = .ok (.ldc2_w 221, 3) := by decide +kernel
theorem dX6_isShort_6 : decode cX6_isShort 6 = .ok (.invokestatic 70, 3) := by decide +kernel
theorem dX6_isShort_9 : decode cX6_isShort 9 = .ok (.ireturn, 1) := by decide +kernel
theorem dX6_nearestBy_0 : decode cX6_nearestBy 0 = .ok (.aload_n 0, 1) := by decide +kernel
theorem dX6_nearestBy_1 : decode cX6_nearestBy 1 = .ok (.getfield 7, 3) := by decide +kernel
theorem dX6_nearestBy_4 : decode cX6_nearestBy 4 = .ok (.iload_n 2, 1) := by decide +kernel
theorem dX6_nearestBy_5 : decode cX6_nearestBy 5 = .ok (.iaload, 1) := by decide +kernel
theorem dX6_nearestBy_6 : decode cX6_nearestBy 6 = .ok (.istore 5, 2) := by decide +kernel
theorem dX6_nearestBy_8 : decode cX6_nearestBy 8 = .ok (.iconst 0, 1) := by decide +kernel
theorem dX6_nearestBy_9 : decode cX6_nearestBy 9 = .ok (.istore 6, 2) := by decide +kernel
theorem dX6_nearestBy_11 : decode cX6_nearestBy 11 = .ok (.sipush 1000, 3) := by decide +kernel
theorem dX6_nearestBy_14 : decode cX6_nearestBy 14 = .ok (.istore 7, 2) := by decide +kernel
theorem dX6_nearestBy_16 : decode cX6_nearestBy 16 = .ok (.iconst 0, 1) := by decide +kernel
theorem dX6_nearestBy_17 : decode cX6_nearestBy 17 = .ok (.istore 8, 2) := by decide +kernel
theorem dX6_nearestBy_19 : decode cX6_nearestBy 19 = .ok (.iload 8, 2) := by decide +kernel
theorem dX6_nearestBy_21 : decode cX6_nearestBy 21 = .ok (.iload_n 3, 1) := by decide +kernel
theorem dX6_nearestBy_22 : decode cX6_nearestBy 22 = .ok (.if_icmp .gt 51, 3) := by decide +kernel
theorem dX6_nearestBy_25 : decode cX6_nearestBy 25 = .ok (.aload_n 0, 1) := by decide +kernel
theorem dX6_nearestBy_26 : decode cX6_nearestBy 26 = .ok (.getfield 7, 3) := by decide +kernel
theorem dX6_nearestBy_29 : decode cX6_nearestBy 29 = .ok (.iload_n 2, 1) := by decide +kernel
theorem dX6_nearestBy_30 : decode cX6_nearestBy 30 = .ok (.iload 8, 2) := by decide +kernel
theorem dX6_nearestBy_32 : decode cX6_nearestBy 32 = .ok (.iastore, 1) := by decide +kernel
theorem dX6_nearestBy_33 : decode cX6_nearestBy 33 = .ok (.aload_n 0, 1) := by decide +kernel
theorem dX6_nearestBy_34 : decode cX6_nearestBy 34 = .ok (.iload_n 1, 1) := by decide +kernel
theorem dX6_nearestBy_35 : decode cX6_nearestBy 35 = .ok (.iload 4, 2) := by decide +kernel
theorem dX6_nearestBy_37 : decode cX6_nearestBy 37 = .ok (.invokevirtual 244, 3) := by decide +kernel
theorem dX6_nearestBy_40 : decode cX6_nearestBy 40 = .ok (.istore 9, 2) := by decide +kernel
theorem dX6_nearestBy_42 : decode cX6_nearestBy 42 = .ok (.iload 9, 2) := by decide +kernel
theorem dX6_nearestBy_44 : decode cX6_nearestBy 44 = .ok (.iload 7, 2) := by decide +kernel
theorem dX6_nearestBy_46 : decode cX6_nearestBy 46 = .ok (.if_icmp .ge 8, 3) := by decide +kernel
theorem dX6_nearestBy_49 : decode cX6_nearestBy 49 = .ok (.iload 8, 2) := by decide +kernel
theorem dX6_nearestBy_51 : decode cX6_nearestBy 51 = .ok (.goto 5, 3) := by decide +kernel
theorem dX6_nearestBy_54 : decode cX6_nearestBy 54 = .ok (.iload 6, 2) := by decide +kernel
theorem dX6_nearestBy_56 : decode cX6_nearestBy 56 = .ok (.istore 6, 2) := by decide +kernel
theorem dX6_nearestBy_58 : decode cX6_nearestBy 58 = .ok (.iload 7, 2) := by decide +kernel
theorem dX6_nearestBy_60 : decode cX6_nearestBy 60 = .ok (.iload 9, 2) := by decide +kernel
theorem dX6_nearestBy_62 : decode cX6_nearestBy 62 = .ok (.invokestatic 247, 3) := by decide +kernel
theorem dX6_nearestBy_65 : decode cX6_nearestBy 65 = .ok (.istore 7, 2) := by decide +kernel
theorem dX6_nearestBy_67 : decode cX6_nearestBy 67 = .ok (.iinc 8 1, 3) := by decide +kernel
theorem dX6_nearestBy_70 : decode cX6_nearestBy 70 = .ok (.goto (-51), 3) := by decide +kernel
theorem dX6_nearestBy_73 : decode cX6_nearestBy 73 = .ok (.aload_n 0, 1) := by decide +kernel
theorem dX6_nearestBy_74 : decode cX6_nearestBy 74 = .ok (.getfield 7, 3) := by decide +kernel
theorem dX6_nearestBy_77 : decode cX6_nearestBy 77 = .ok (.iload_n 2, 1) := by decide +kernel
theorem dX6_nearestBy_78 : decode cX6_nearestBy 78 = .ok (.iload 5, 2) := by decide +kernel
theorem dX6_nearestBy_80 : decode cX6_nearestBy 80 = .ok (.iastore, 1) := by decide +kernel
theorem dX6_nearestBy_81 : decode cX6_nearestBy 81 = .ok (.iload 6, 2) := by decide +kernel
theorem dX6_nearestBy_83 : decode cX6_nearestBy 83 = .ok (.ireturn, 1) := by decide +kernel
theorem dX6_windFor_0 : decode cX6_windFor 0 = .ok (.aload_n 0, 1) := by decide +kernel
theorem dX6_windFor_1 : decode cX6_windFor 1 = .ok (.iload_n 1, 1) := by decide +kernel
theorem dX6_windFor_2 : decode cX6_windFor 2 = .ok (.invokevirtual 191, 3) := by decide +kernel
theorem dX6_windFor_5 : decode cX6_windFor 5 = .ok (.ifCond .eq 21, 3) := by decide +kernel
theorem dX6_windFor_8 : decode cX6_windFor 8 = .ok (.iload_n 2, 1) := by decide +kernel
theorem dX6_windFor_9 : decode cX6_windFor 9 = .ok (.invokestatic 250, 3) := by decide +kernel
theorem dX6_windFor_12 : decode cX6_windFor 12 = .ok (.ifCond .eq 14, 3) := by decide +kernel
theorem dX6_windFor_15 : decode cX6_windFor 15 = .ok (.aload_n 0, 1) := by decide +kernel
theorem dX6_windFor_16 : decode cX6_windFor 16 = .ok (.iload_n 1, 1) := by decide +kernel
theorem dX6_windFor_17 : decode cX6_windFor 17 = .ok (.iconst 3, 1) := by decide +kernel
theorem dX6_windFor_18 : decode cX6_windFor 18 = .ok (.iconst 3, 1) := by decide +kernel
theorem dX6_windFor_19 : decode cX6_windFor 19 = .ok (.iload_n 2, 1) := by decide +kernel
theorem dX6_windFor_20 : decode cX6_windFor 20 = .ok (.invokevirtual 253, 3) := by decide +kernel
theorem dX6_windFor_23 : decode cX6_windFor 23 = .ok (.goto 4, 3) := by decide +kernel
theorem dX6_windFor_26 : decode cX6_windFor 26 = .ok (.iconst (-1), 1) := by decide +kernel
theorem dX6_windFor_27 : decode cX6_windFor 27 = .ok (.ireturn, 1) := by decide +kernel
theorem dX6_kindFor_0 : decode cX6_kindFor 0 = .ok (.aload_n 0, 1) := by decide +kernel
theorem dX6_kindFor_1 : decode cX6_kindFor 1 = .ok (.iload_n 1, 1) := by decide +kernel
theorem dX6_kindFor_2 : decode cX6_kindFor 2 = .ok (.invokevirtual 191, 3) := by decide +kernel
theorem dX6_kindFor_5 : decode cX6_kindFor 5 = .ok (.ifCond .eq 26, 3) := by decide +kernel
theorem dX6_kindFor_8 : decode cX6_kindFor 8 = .ok (.iload_n 2, 1) := by decide +kernel
theorem dX6_kindFor_9 : decode cX6_kindFor 9 = .ok (.invokestatic 250, 3) := by decide +kernel
theorem dX6_kindFor_12 : decode cX6_kindFor 12 = .ok (.ifCond .eq 19, 3) := by decide +kernel
theorem dX6_kindFor_15 : decode cX6_kindFor 15 = .ok (.aload_n 0, 1) := by decide +kernel
theorem dX6_kindFor_16 : decode cX6_kindFor 16 = .ok (.iload_n 1, 1) := by decide +kernel
theorem dX6_kindFor_17 : decode cX6_kindFor 17 = .ok (.bipush 24, 2) := by decide +kernel
theorem dX6_kindFor_19 : decode cX6_kindFor 19 = .ok (.iconst 4, 1) := by decide +kernel
theorem dX6_kindFor_20 : decode cX6_kindFor 20 = .ok (.iload_n 1, 1) := by decide +kernel
theorem dX6_kindFor_21 : decode cX6_kindFor 21 = .ok (.imul, 1) := by decide +kernel
theorem dX6_kindFor_22 : decode cX6_kindFor 22 = .ok (.iadd, 1) := by decide +kernel
theorem dX6_kindFor_23 : decode cX6_kindFor 23 = .ok (.iconst 5, 1) := by decide +kernel
theorem dX6_kindFor_24 : decode cX6_kindFor 24 = .ok (.iload_n 2, 1) := by decide +kernel
theorem dX6_kindFor_25 : decode cX6_kindFor 25 = .ok (.invokevirtual 253, 3) := by decide +kernel
theorem dX6_kindFor_28 : decode cX6_kindFor 28 = .ok (.goto 4, 3) := by decide +kernel
theorem dX6_kindFor_31 : decode cX6_kindFor 31 = .ok (.iconst (-1), 1) := by decide +kernel
theorem dX6_kindFor_32 : decode cX6_kindFor 32 = .ok (.ireturn, 1) := by decide +kernel
theorem dX6_seen_0 : decode cX6_seen 0 = .ok (.iload_n 1, 1) := by decide +kernel
theorem dX6_seen_1 : decode cX6_seen 1 = .ok (.i2l, 1) := by decide +kernel
theorem dX6_seen_2 : decode cX6_seen 2 = .ok (.lconst 0, 1) := by decide +kernel
theorem dX6_seen_3 : decode cX6_seen 3 = .ok (.ldc2_w 221, 3) := by decide +kernel
theorem dX6_seen_6 : decode cX6_seen 6 = .ok (.invokestatic 70, 3) := by decide +kernel
theorem dX6_seen_9 : decode cX6_seen 9 = .ok (.ifCond .ne 5, 3) := by decide +kernel
theorem dX6_seen_12 : decode cX6_seen 12 = .ok (.iconst (-1), 1) := by decide +kernel
theorem dX6_seen_13 : decode cX6_seen 13 = .ok (.ireturn, 1) := by decide +kernel
theorem dX6_seen_14 : decode cX6_seen 14 = .ok (.iconst 0, 1) := by decide +kernel
theorem dX6_seen_15 : decode cX6_seen 15 = .ok (.istore_n 2, 1) := by decide +kernel
theorem dX6_seen_16 : decode cX6_seen 16 = .ok (.iload_n 2, 1) := by decide +kernel
theorem dX6_seen_17 : decode cX6_seen 17 = .ok (.bipush 16, 2) := by decide +kernel
theorem dX6_seen_19 : decode cX6_seen 19 = .ok (.if_icmp .ge 16, 3) := by decide +kernel
theorem dX6_seen_22 : decode cX6_seen 22 = .ok (.aload_n 0, 1) := by decide +kernel
theorem dX6_seen_23 : decode cX6_seen 23 = .ok (.getfield 31, 3) := by decide +kernel
theorem dX6_seen_26 : decode cX6_seen 26 = .ok (.iload_n 2, 1) := by decide +kernel
theorem dX6_seen_27 : decode cX6_seen 27 = .ok (.iconst 0, 1) := by decide +kernel
theorem dX6_seen_28 : decode cX6_seen 28 = .ok (.iastore, 1) := by decide +kernel
theorem dX6_seen_29 : decode cX6_seen 29 = .ok (.iinc 2 1, 3) := by decide +kernel
theorem dX6_seen_32 : decode cX6_seen 32 = .ok (.goto (-16), 3) := by decide +kernel
theorem dX6_seen_35 : decode cX6_seen 35 = .ok (.aload_n 0, 1) := by decide +kernel
theorem dX6_seen_36 : decode cX6_seen 36 = .ok (.getfield 7, 3) := by decide +kernel
theorem dX6_seen_39 : decode cX6_seen 39 = .ok (.aload_n 0, 1) := by decide +kernel
theorem dX6_seen_40 : decode cX6_seen 40 = .ok (.getfield 16, 3) := by decide +kernel
theorem dX6_seen_43 : decode cX6_seen 43 = .ok (.invokestatic 158, 3) := by decide +kernel
theorem dX6_seen_46 : decode cX6_seen 46 = .ok (.iconst 0, 1) := by decide +kernel
theorem dX6_seen_47 : decode cX6_seen 47 = .ok (.istore_n 2, 1) := by decide +kernel
theorem dX6_seen_48 : decode cX6_seen 48 = .ok (.iload_n 2, 1) := by decide +kernel
theorem dX6_seen_49 : decode cX6_seen 49 = .ok (.iload_n 1, 1) := by decide +kernel
theorem dX6_seen_50 : decode cX6_seen 50 = .ok (.if_icmp .gt 48, 3) := by decide +kernel
theorem dX6_seen_53 : decode cX6_seen 53 = .ok (.iconst 0, 1) := by decide +kernel
theorem dX6_seen_54 : decode cX6_seen 54 = .ok (.istore_n 3, 1) := by decide +kernel
theorem dX6_seen_55 : decode cX6_seen 55 = .ok (.iload_n 3, 1) := by decide +kernel
theorem dX6_seen_56 : decode cX6_seen 56 = .ok (.aload_n 0, 1) := by decide +kernel
theorem dX6_seen_57 : decode cX6_seen 57 = .ok (.getfield 7, 3) := by decide +kernel
theorem dX6_seen_60 : decode cX6_seen 60 = .ok (.iconst 0, 1) := by decide +kernel
theorem dX6_seen_61 : decode cX6_seen 61 = .ok (.iaload, 1) := by decide +kernel
theorem dX6_seen_62 : decode cX6_seen 62 = .ok (.if_icmp .ge 26, 3) := by decide +kernel
theorem dX6_seen_65 : decode cX6_seen 65 = .ok (.aload_n 0, 1) := by decide +kernel
theorem dX6_seen_66 : decode cX6_seen 66 = .ok (.getfield 31, 3) := by decide +kernel
theorem dX6_seen_69 : decode cX6_seen 69 = .ok (.aload_n 0, 1) := by decide +kernel
theorem dX6_seen_70 : decode cX6_seen 70 = .ok (.iload_n 3, 1) := by decide +kernel
theorem dX6_seen_71 : decode cX6_seen 71 = .ok (.iconst 3, 1) := by decide +kernel
theorem dX6_seen_72 : decode cX6_seen 72 = .ok (.invokevirtual 182, 3) := by decide +kernel
theorem dX6_seen_75 : decode cX6_seen 75 = .ok (.dup2, 1) := by decide +kernel
theorem dX6_seen_76 : decode cX6_seen 76 = .ok (.iaload, 1) := by decide +kernel
theorem dX6_seen_77 : decode cX6_seen 77 = .ok (.iconst 1, 1) := by decide +kernel
theorem dX6_seen_78 : decode cX6_seen 78 = .ok (.iload_n 3, 1) := by decide +kernel
theorem dX6_seen_79 : decode cX6_seen 79 = .ok (.ishl, 1) := by decide +kernel
theorem dX6_seen_80 : decode cX6_seen 80 = .ok (.ior, 1) := by decide +kernel
theorem dX6_seen_81 : decode cX6_seen 81 = .ok (.iastore, 1) := by decide +kernel
theorem dX6_seen_82 : decode cX6_seen 82 = .ok (.iinc 3 1, 3) := by decide +kernel
theorem dX6_seen_85 : decode cX6_seen 85 = .ok (.goto (-30), 3) := by decide +kernel
theorem dX6_seen_88 : decode cX6_seen 88 = .ok (.aload_n 0, 1) := by decide +kernel
theorem dX6_seen_89 : decode cX6_seen 89 = .ok (.invokevirtual 203, 3) := by decide +kernel
theorem dX6_seen_92 : decode cX6_seen 92 = .ok (.iinc 2 1, 3) := by decide +kernel
theorem dX6_seen_95 : decode cX6_seen 95 = .ok (.goto (-47), 3) := by decide +kernel
theorem dX6_seen_98 : decode cX6_seen 98 = .ok (.aload_n 0, 1) := by decide +kernel
theorem dX6_seen_99 : decode cX6_seen 99 = .ok (.getfield 16, 3) := by decide +kernel
theorem dX6_seen_102 : decode cX6_seen 102 = .ok (.aload_n 0, 1) := by decide +kernel
theorem dX6_seen_103 : decode cX6_seen 103 = .ok (.getfield 7, 3) := by decide +kernel
theorem dX6_seen_106 : decode cX6_seen 106 = .ok (.invokestatic 158, 3) := by decide +kernel
theorem dX6_seen_109 : decode cX6_seen 109 = .ok (.aload_n 0, 1) := by decide +kernel
theorem dX6_seen_110 : decode cX6_seen 110 = .ok (.getfield 34, 3) := by decide +kernel
theorem dX6_seen_113 : decode cX6_seen 113 = .ok (.iconst 0, 1) := by decide +kernel
theorem dX6_seen_114 : decode cX6_seen 114 = .ok (.iconst 0, 1) := by decide +kernel
theorem dX6_seen_115 : decode cX6_seen 115 = .ok (.iastore, 1) := by decide +kernel
theorem dX6_seen_116 : decode cX6_seen 116 = .ok (.iconst 1, 1) := by decide +kernel
theorem dX6_seen_117 : decode cX6_seen 117 = .ok (.istore_n 2, 1) := by decide +kernel
theorem dX6_seen_118 : decode cX6_seen 118 = .ok (.iload_n 2, 1) := by decide +kernel
theorem dX6_seen_119 : decode cX6_seen 119 = .ok (.iconst 1, 1) := by decide +kernel
theorem dX6_seen_120 : decode cX6_seen 120 = .ok (.aload_n 0, 1) := by decide +kernel
theorem dX6_seen_121 : decode cX6_seen 121 = .ok (.getfield 7, 3) := by decide +kernel
theorem dX6_seen_124 : decode cX6_seen 124 = .ok (.iconst 0, 1) := by decide +kernel
theorem dX6_seen_125 : decode cX6_seen 125 = .ok (.iaload, 1) := by decide +kernel
theorem dX6_seen_126 : decode cX6_seen 126 = .ok (.ishl, 1) := by decide +kernel
theorem dX6_seen_127 : decode cX6_seen 127 = .ok (.if_icmp .ge 74, 3) := by decide +kernel
theorem dX6_seen_130 : decode cX6_seen 130 = .ok (.aload_n 0, 1) := by decide +kernel
theorem dX6_seen_131 : decode cX6_seen 131 = .ok (.getfield 34, 3) := by decide +kernel
theorem dX6_seen_134 : decode cX6_seen 134 = .ok (.iload_n 2, 1) := by decide +kernel
theorem dX6_seen_135 : decode cX6_seen 135 = .ok (.bipush 100, 2) := by decide +kernel
theorem dX6_seen_137 : decode cX6_seen 137 = .ok (.iastore, 1) := by decide +kernel
theorem dX6_seen_138 : decode cX6_seen 138 = .ok (.iconst 0, 1) := by decide +kernel
theorem dX6_seen_139 : decode cX6_seen 139 = .ok (.istore_n 3, 1) := by decide +kernel
theorem dX6_seen_140 : decode cX6_seen 140 = .ok (.iload_n 3, 1) := by decide +kernel
theorem dX6_seen_141 : decode cX6_seen 141 = .ok (.bipush 16, 2) := by decide +kernel
theorem dX6_seen_143 : decode cX6_seen 143 = .ok (.if_icmp .ge 52, 3) := by decide +kernel
theorem dX6_seen_146 : decode cX6_seen 146 = .ok (.iload_n 2, 1) := by decide +kernel
theorem dX6_seen_147 : decode cX6_seen 147 = .ok (.aload_n 0, 1) := by decide +kernel
theorem dX6_seen_148 : decode cX6_seen 148 = .ok (.getfield 31, 3) := by decide +kernel
theorem dX6_seen_151 : decode cX6_seen 151 = .ok (.iload_n 3, 1) := by decide +kernel
theorem dX6_seen_152 : decode cX6_seen 152 = .ok (.iaload, 1) := by decide +kernel
theorem dX6_seen_153 : decode cX6_seen 153 = .ok (.iand, 1) := by decide +kernel
theorem dX6_seen_154 : decode cX6_seen 154 = .ok (.ifCond .eq 35, 3) := by decide +kernel
theorem dX6_seen_157 : decode cX6_seen 157 = .ok (.aload_n 0, 1) := by decide +kernel
theorem dX6_seen_158 : decode cX6_seen 158 = .ok (.getfield 34, 3) := by decide +kernel
theorem dX6_seen_161 : decode cX6_seen 161 = .ok (.iload_n 2, 1) := by decide +kernel
theorem dX6_seen_162 : decode cX6_seen 162 = .ok (.aload_n 0, 1) := by decide +kernel
theorem dX6_seen_163 : decode cX6_seen 163 = .ok (.getfield 34, 3) := by decide +kernel
theorem dX6_seen_166 : decode cX6_seen 166 = .ok (.iload_n 2, 1) := by decide +kernel
theorem dX6_seen_167 : decode cX6_seen 167 = .ok (.iaload, 1) := by decide +kernel
theorem dX6_seen_168 : decode cX6_seen 168 = .ok (.iconst 1, 1) := by decide +kernel
theorem dX6_seen_169 : decode cX6_seen 169 = .ok (.aload_n 0, 1) := by decide +kernel
theorem dX6_seen_170 : decode cX6_seen 170 = .ok (.getfield 34, 3) := by decide +kernel
theorem dX6_seen_173 : decode cX6_seen 173 = .ok (.iload_n 2, 1) := by decide +kernel
theorem dX6_seen_174 : decode cX6_seen 174 = .ok (.aload_n 0, 1) := by decide +kernel
theorem dX6_seen_175 : decode cX6_seen 175 = .ok (.getfield 31, 3) := by decide +kernel
theorem dX6_seen_178 : decode cX6_seen 178 = .ok (.iload_n 3, 1) := by decide +kernel
theorem dX6_seen_179 : decode cX6_seen 179 = .ok (.iaload, 1) := by decide +kernel
theorem dX6_seen_180 : decode cX6_seen 180 = .ok (.iconst (-1), 1) := by decide +kernel
theorem dX6_seen_181 : decode cX6_seen 181 = .ok (.ixor, 1) := by decide +kernel
theorem dX6_seen_182 : decode cX6_seen 182 = .ok (.iand, 1) := by decide +kernel
theorem dX6_seen_183 : decode cX6_seen 183 = .ok (.iaload, 1) := by decide +kernel
theorem dX6_seen_184 : decode cX6_seen 184 = .ok (.iadd, 1) := by decide +kernel
theorem dX6_seen_185 : decode cX6_seen 185 = .ok (.invokestatic 247, 3) := by decide +kernel
theorem dX6_seen_188 : decode cX6_seen 188 = .ok (.iastore, 1) := by decide +kernel
theorem dX6_seen_189 : decode cX6_seen 189 = .ok (.iinc 3 1, 3) := by decide +kernel
theorem dX6_seen_192 : decode cX6_seen 192 = .ok (.goto (-52), 3) := by decide +kernel
theorem dX6_seen_195 : decode cX6_seen 195 = .ok (.iinc 2 1, 3) := by decide +kernel
theorem dX6_seen_198 : decode cX6_seen 198 = .ok (.goto (-80), 3) := by decide +kernel
theorem dX6_seen_201 : decode cX6_seen 201 = .ok (.aload_n 0, 1) := by decide +kernel
theorem dX6_seen_202 : decode cX6_seen 202 = .ok (.getfield 34, 3) := by decide +kernel
theorem dX6_seen_205 : decode cX6_seen 205 = .ok (.iconst 1, 1) := by decide +kernel
theorem dX6_seen_206 : decode cX6_seen 206 = .ok (.aload_n 0, 1) := by decide +kernel
theorem dX6_seen_207 : decode cX6_seen 207 = .ok (.getfield 7, 3) := by decide +kernel
theorem dX6_seen_210 : decode cX6_seen 210 = .ok (.iconst 0, 1) := by decide +kernel
theorem dX6_seen_211 : decode cX6_seen 211 = .ok (.iaload, 1) := by decide +kernel
theorem dX6_seen_212 : decode cX6_seen 212 = .ok (.ishl, 1) := by decide +kernel
theorem dX6_seen_213 : decode cX6_seen 213 = .ok (.iconst 1, 1) := by decide +kernel
theorem dX6_seen_214 : decode cX6_seen 214 = .ok (.isub, 1) := by decide +kernel
theorem dX6_seen_215 : decode cX6_seen 215 = .ok (.iaload, 1) := by decide +kernel
theorem dX6_seen_216 : decode cX6_seen 216 = .ok (.ireturn, 1) := by decide +kernel
theorem dX6_dryWay_0 : decode cX6_dryWay 0 = .ok (.iload_n 1, 1) := by decide +kernel
theorem dX6_dryWay_1 : decode cX6_dryWay 1 = .ok (.invokestatic 179, 3) := by decide +kernel
theorem dX6_dryWay_4 : decode cX6_dryWay 4 = .ok (.ifCond .eq 10, 3) := by decide +kernel
theorem dX6_dryWay_7 : decode cX6_dryWay 7 = .ok (.iload_n 2, 1) := by decide +kernel
theorem dX6_dryWay_8 : decode cX6_dryWay 8 = .ok (.invokestatic 179, 3) := by decide +kernel
theorem dX6_dryWay_11 : decode cX6_dryWay 11 = .ok (.ifCond .ne 5, 3) := by decide +kernel
theorem dX6_dryWay_14 : decode cX6_dryWay 14 = .ok (.iconst (-1), 1) := by decide +kernel
theorem dX6_dryWay_15 : decode cX6_dryWay 15 = .ok (.ireturn, 1) := by decide +kernel
theorem dX6_dryWay_16 : decode cX6_dryWay 16 = .ok (.aload_n 0, 1) := by decide +kernel
theorem dX6_dryWay_17 : decode cX6_dryWay 17 = .ok (.aload_n 0, 1) := by decide +kernel
theorem dX6_dryWay_18 : decode cX6_dryWay 18 = .ok (.getfield 7, 3) := by decide +kernel
theorem dX6_dryWay_21 : decode cX6_dryWay 21 = .ok (.iconst 5, 1) := by decide +kernel
theorem dX6_dryWay_22 : decode cX6_dryWay 22 = .ok (.iaload, 1) := by decide +kernel
theorem dX6_dryWay_23 : decode cX6_dryWay 23 = .ok (.invokevirtual 232, 3) := by decide +kernel
theorem dX6_dryWay_26 : decode cX6_dryWay 26 = .ok (.istore_n 3, 1) := by decide +kernel
theorem dX6_dryWay_27 : decode cX6_dryWay 27 = .ok (.iconst 1, 1) := by decide +kernel
theorem dX6_dryWay_28 : decode cX6_dryWay 28 = .ok (.iload_n 1, 1) := by decide +kernel
theorem dX6_dryWay_29 : decode cX6_dryWay 29 = .ok (.ishl, 1) := by decide +kernel
theorem dX6_dryWay_30 : decode cX6_dryWay 30 = .ok (.iload_n 3, 1) := by decide +kernel
theorem dX6_dryWay_31 : decode cX6_dryWay 31 = .ok (.iconst (-1), 1) := by decide +kernel
theorem dX6_dryWay_32 : decode cX6_dryWay 32 = .ok (.ixor, 1) := by decide +kernel
theorem dX6_dryWay_33 : decode cX6_dryWay 33 = .ok (.iand, 1) := by decide +kernel
theorem dX6_dryWay_34 : decode cX6_dryWay 34 = .ok (.istore 4, 2) := by decide +kernel
theorem dX6_dryWay_36 : decode cX6_dryWay 36 = .ok (.iconst 0, 1) := by decide +kernel
theorem dX6_dryWay_37 : decode cX6_dryWay 37 = .ok (.istore 5, 2) := by decide +kernel
theorem dX6_dryWay_39 : decode cX6_dryWay 39 = .ok (.iload 5, 2) := by decide +kernel
theorem dX6_dryWay_41 : decode cX6_dryWay 41 = .ok (.bipush 16, 2) := by decide +kernel
theorem dX6_dryWay_43 : decode cX6_dryWay 43 = .ok (.if_icmp .ge 108, 3) := by decide +kernel
theorem dX6_dryWay_46 : decode cX6_dryWay 46 = .ok (.iload 4, 2) := by decide +kernel
theorem dX6_dryWay_48 : decode cX6_dryWay 48 = .ok (.iload_n 2, 1) := by decide +kernel
theorem dX6_dryWay_49 : decode cX6_dryWay 49 = .ok (.ishr, 1) := by decide +kernel
theorem dX6_dryWay_50 : decode cX6_dryWay 50 = .ok (.iconst 1, 1) := by decide +kernel
theorem dX6_dryWay_51 : decode cX6_dryWay 51 = .ok (.iand, 1) := by decide +kernel
theorem dX6_dryWay_52 : decode cX6_dryWay 52 = .ok (.iconst 1, 1) := by decide +kernel
theorem dX6_dryWay_53 : decode cX6_dryWay 53 = .ok (.if_icmp .ne 6, 3) := by decide +kernel
theorem dX6_dryWay_56 : decode cX6_dryWay 56 = .ok (.iload 5, 2) := by decide +kernel
theorem dX6_dryWay_58 : decode cX6_dryWay 58 = .ok (.ireturn, 1) := by decide +kernel
theorem dX6_dryWay_59 : decode cX6_dryWay 59 = .ok (.iload 4, 2) := by decide +kernel
theorem dX6_dryWay_61 : decode cX6_dryWay 61 = .ok (.istore 6, 2) := by decide +kernel
theorem dX6_dryWay_63 : decode cX6_dryWay 63 = .ok (.iconst 0, 1) := by decide +kernel
theorem dX6_dryWay_64 : decode cX6_dryWay 64 = .ok (.istore 7, 2) := by decide +kernel
theorem dX6_dryWay_66 : decode cX6_dryWay 66 = .ok (.iload 7, 2) := by decide +kernel
theorem dX6_dryWay_68 : decode cX6_dryWay 68 = .ok (.bipush 16, 2) := by decide +kernel
theorem dX6_dryWay_70 : decode cX6_dryWay 70 = .ok (.if_icmp .ge 71, 3) := by decide +kernel
theorem dX6_dryWay_73 : decode cX6_dryWay 73 = .ok (.iconst 0, 1) := by decide +kernel
theorem dX6_dryWay_74 : decode cX6_dryWay 74 = .ok (.istore 8, 2) := by decide +kernel
theorem dX6_dryWay_76 : decode cX6_dryWay 76 = .ok (.iload 8, 2) := by decide +kernel
theorem dX6_dryWay_78 : decode cX6_dryWay 78 = .ok (.iconst 4, 1) := by decide +kernel
theorem dX6_dryWay_79 : decode cX6_dryWay 79 = .ok (.if_icmp .ge 56, 3) := by decide +kernel
theorem dX6_dryWay_82 : decode cX6_dryWay 82 = .ok (.iload 4, 2) := by decide +kernel
theorem dX6_dryWay_84 : decode cX6_dryWay 84 = .ok (.iload 7, 2) := by decide +kernel
theorem dX6_dryWay_86 : decode cX6_dryWay 86 = .ok (.ishr, 1) := by decide +kernel
theorem dX6_dryWay_87 : decode cX6_dryWay 87 = .ok (.iconst 1, 1) := by decide +kernel
theorem dX6_dryWay_88 : decode cX6_dryWay 88 = .ok (.iand, 1) := by decide +kernel
theorem dX6_dryWay_89 : decode cX6_dryWay 89 = .ok (.iconst 1, 1) := by decide +kernel
theorem dX6_dryWay_90 : decode cX6_dryWay 90 = .ok (.if_icmp .ne 45, 3) := by decide +kernel
theorem dX6_dryWay_93 : decode cX6_dryWay 93 = .ok (.iload 7, 2) := by decide +kernel
theorem dX6_dryWay_95 : decode cX6_dryWay 95 = .ok (.iload 8, 2) := by decide +kernel
theorem dX6_dryWay_97 : decode cX6_dryWay 97 = .ok (.invokestatic 188, 3) := by decide +kernel
theorem dX6_dryWay_100 : decode cX6_dryWay 100 = .ok (.istore 9, 2) := by decide +kernel
theorem dX6_dryWay_102 : decode cX6_dryWay 102 = .ok (.iload 6, 2) := by decide +kernel
theorem dX6_dryWay_104 : decode cX6_dryWay 104 = .ok (.iload 9, 2) := by decide +kernel
theorem dX6_dryWay_106 : decode cX6_dryWay 106 = .ok (.ifCond .lt 19, 3) := by decide +kernel
theorem dX6_dryWay_109 : decode cX6_dryWay 109 = .ok (.iload_n 3, 1) := by decide +kernel
theorem dX6_dryWay_110 : decode cX6_dryWay 110 = .ok (.iload 9, 2) := by decide +kernel
theorem dX6_dryWay_112 : decode cX6_dryWay 112 = .ok (.ishr, 1) := by decide +kernel
theorem dX6_dryWay_113 : decode cX6_dryWay 113 = .ok (.iconst 1, 1) := by decide +kernel
theorem dX6_dryWay_114 : decode cX6_dryWay 114 = .ok (.iand, 1) := by decide +kernel
theorem dX6_dryWay_115 : decode cX6_dryWay 115 = .ok (.ifCond .ne 10, 3) := by decide +kernel
theorem dX6_dryWay_118 : decode cX6_dryWay 118 = .ok (.iconst 1, 1) := by decide +kernel
theorem dX6_dryWay_119 : decode cX6_dryWay 119 = .ok (.iload 9, 2) := by decide +kernel
theorem dX6_dryWay_121 : decode cX6_dryWay 121 = .ok (.ishl, 1) := by decide +kernel
theorem dX6_dryWay_122 : decode cX6_dryWay 122 = .ok (.goto 4, 3) := by decide +kernel
theorem dX6_dryWay_125 : decode cX6_dryWay 125 = .ok (.iconst 0, 1) := by decide +kernel
theorem dX6_dryWay_126 : decode cX6_dryWay 126 = .ok (.ior, 1) := by decide +kernel
theorem dX6_dryWay_127 : decode cX6_dryWay 127 = .ok (.istore 6, 2) := by decide +kernel
theorem dX6_dryWay_129 : decode cX6_dryWay 129 = .ok (.iinc 8 1, 3) := by decide +kernel
theorem dX6_dryWay_132 : decode cX6_dryWay 132 = .ok (.goto (-56), 3) := by decide +kernel
theorem dX6_dryWay_135 : decode cX6_dryWay 135 = .ok (.iinc 7 1, 3) := by decide +kernel
theorem dX6_dryWay_138 : decode cX6_dryWay 138 = .ok (.goto (-72), 3) := by decide +kernel
theorem dX6_dryWay_141 : decode cX6_dryWay 141 = .ok (.iload 6, 2) := by decide +kernel
theorem dX6_dryWay_143 : decode cX6_dryWay 143 = .ok (.istore 4, 2) := by decide +kernel
theorem dX6_dryWay_145 : decode cX6_dryWay 145 = .ok (.iinc 5 1, 3) := by decide +kernel
theorem dX6_dryWay_148 : decode cX6_dryWay 148 = .ok (.goto (-109), 3) := by decide +kernel
theorem dX6_dryWay_151 : decode cX6_dryWay 151 = .ok (.bipush (-3), 2) := by decide +kernel
theorem dX6_dryWay_153 : decode cX6_dryWay 153 = .ok (.ireturn, 1) := by decide +kernel
theorem dX6_product_0 : decode cX6_product 0 = .ok (.lconst 1, 1) := by decide +kernel
theorem dX6_product_1 : decode cX6_product 1 = .ok (.lstore_n 1, 1) := by decide +kernel
theorem dX6_product_2 : decode cX6_product 2 = .ok (.iconst 2, 1) := by decide +kernel
theorem dX6_product_3 : decode cX6_product 3 = .ok (.istore_n 3, 1) := by decide +kernel
theorem dX6_product_4 : decode cX6_product 4 = .ok (.iload_n 3, 1) := by decide +kernel
theorem dX6_product_5 : decode cX6_product 5 = .ok (.iload_n 0, 1) := by decide +kernel
theorem dX6_product_6 : decode cX6_product 6 = .ok (.if_icmp .gt 14, 3) := by decide +kernel
theorem dX6_product_9 : decode cX6_product 9 = .ok (.lload_n 1, 1) := by decide +kernel
theorem dX6_product_10 : decode cX6_product 10 = .ok (.iload_n 3, 1) := by decide +kernel
theorem dX6_product_11 : decode cX6_product 11 = .ok (.i2l, 1) := by decide +kernel
theorem dX6_product_12 : decode cX6_product 12 = .ok (.lmul, 1) := by decide +kernel
theorem dX6_product_13 : decode cX6_product 13 = .ok (.lstore_n 1, 1) := by decide +kernel
theorem dX6_product_14 : decode cX6_product 14 = .ok (.iinc 3 1, 3) := by decide +kernel
theorem dX6_product_17 : decode cX6_product 17 = .ok (.goto (-13), 3) := by decide +kernel
theorem dX6_product_20 : decode cX6_product 20 = .ok (.lload_n 1, 1) := by decide +kernel
theorem dX6_product_21 : decode cX6_product 21 = .ok (.lreturn, 1) := by decide +kernel
theorem dX6_partOf_0 : decode cX6_partOf 0 = .ok (.lload_n 2, 1) := by decide +kernel
theorem dX6_partOf_1 : decode cX6_partOf 1 = .ok (.lstore 5, 2) := by decide +kernel
theorem dX6_partOf_3 : decode cX6_partOf 3 = .ok (.lload_n 0, 1) := by decide +kernel
theorem dX6_partOf_4 : decode cX6_partOf 4 = .ok (.lstore 7, 2) := by decide +kernel
theorem dX6_partOf_6 : decode cX6_partOf 6 = .ok (.lload 7, 2) := by decide +kernel
theorem dX6_partOf_8 : decode cX6_partOf 8 = .ok (.lconst 0, 1) := by decide +kernel
theorem dX6_partOf_9 : decode cX6_partOf 9 = .ok (.lcmp, 1) := by decide +kernel
theorem dX6_partOf_10 : decode cX6_partOf 10 = .ok (.ifCond .eq 21, 3) := by decide +kernel
theorem dX6_partOf_13 : decode cX6_partOf 13 = .ok (.lload 5, 2) := by decide +kernel
theorem dX6_partOf_15 : decode cX6_partOf 15 = .ok (.lload 7, 2) := by decide +kernel
theorem dX6_partOf_17 : decode cX6_partOf 17 = .ok (.lrem, 1) := by decide +kernel
theorem dX6_partOf_18 : decode cX6_partOf 18 = .ok (.lstore 9, 2) := by decide +kernel
theorem dX6_partOf_20 : decode cX6_partOf 20 = .ok (.lload 7, 2) := by decide +kernel
theorem dX6_partOf_22 : decode cX6_partOf 22 = .ok (.lstore 5, 2) := by decide +kernel
theorem dX6_partOf_24 : decode cX6_partOf 24 = .ok (.lload 9, 2) := by decide +kernel
theorem dX6_partOf_26 : decode cX6_partOf 26 = .ok (.lstore 7, 2) := by decide +kernel
theorem dX6_partOf_28 : decode cX6_partOf 28 = .ok (.goto (-22), 3) := by decide +kernel
theorem dX6_partOf_31 : decode cX6_partOf 31 = .ok (.iload 4, 2) := by decide +kernel
theorem dX6_partOf_33 : decode cX6_partOf 33 = .ok (.ifCond .ne 10, 3) := by decide +kernel
theorem dX6_partOf_36 : decode cX6_partOf 36 = .ok (.lload_n 0, 1) := by decide +kernel
theorem dX6_partOf_37 : decode cX6_partOf 37 = .ok (.lload 5, 2) := by decide +kernel
theorem dX6_partOf_39 : decode cX6_partOf 39 = .ok (.ldiv, 1) := by decide +kernel
theorem dX6_partOf_40 : decode cX6_partOf 40 = .ok (.goto 7, 3) := by decide +kernel
theorem dX6_partOf_43 : decode cX6_partOf 43 = .ok (.lload_n 2, 1) := by decide +kernel
theorem dX6_partOf_44 : decode cX6_partOf 44 = .ok (.lload 5, 2) := by decide +kernel
theorem dX6_partOf_46 : decode cX6_partOf 46 = .ok (.ldiv, 1) := by decide +kernel
theorem dX6_partOf_47 : decode cX6_partOf 47 = .ok (.lreturn, 1) := by decide +kernel
theorem dX6_isTold_0 : decode cX6_isTold 0 = .ok (.aload_n 0, 1) := by decide +kernel
theorem dX6_isTold_1 : decode cX6_isTold 1 = .ok (.getfield 7, 3) := by decide +kernel
theorem dX6_isTold_4 : decode cX6_isTold 4 = .ok (.aload_n 0, 1) := by decide +kernel
theorem dX6_isTold_5 : decode cX6_isTold 5 = .ok (.getfield 16, 3) := by decide +kernel
theorem dX6_isTold_8 : decode cX6_isTold 8 = .ok (.invokestatic 158, 3) := by decide +kernel
theorem dX6_isTold_11 : decode cX6_isTold 11 = .ok (.iconst 1, 1) := by decide +kernel
theorem dX6_isTold_12 : decode cX6_isTold 12 = .ok (.istore_n 3, 1) := by decide +kernel
theorem dX6_isTold_13 : decode cX6_isTold 13 = .ok (.iconst 0, 1) := by decide +kernel
theorem dX6_isTold_14 : decode cX6_isTold 14 = .ok (.istore 4, 2) := by decide +kernel
theorem dX6_isTold_16 : decode cX6_isTold 16 = .ok (.iload 4, 2) := by decide +kernel
theorem dX6_isTold_18 : decode cX6_isTold 18 = .ok (.aload_n 0, 1) := by decide +kernel
theorem dX6_isTold_19 : decode cX6_isTold 19 = .ok (.getfield 43, 3) := by decide +kernel
theorem dX6_isTold_22 : decode cX6_isTold 22 = .ok (.iload_n 1, 1) := by decide +kernel
theorem dX6_isTold_23 : decode cX6_isTold 23 = .ok (.iaload, 1) := by decide +kernel
theorem dX6_isTold_24 : decode cX6_isTold 24 = .ok (.if_icmp .ge 60, 3) := by decide +kernel
theorem dX6_isTold_27 : decode cX6_isTold 27 = .ok (.iload_n 3, 1) := by decide +kernel
theorem dX6_isTold_28 : decode cX6_isTold 28 = .ok (.ifCond .eq 56, 3) := by decide +kernel
theorem dX6_isTold_31 : decode cX6_isTold 31 = .ok (.aload_n 0, 1) := by decide +kernel
theorem dX6_isTold_32 : decode cX6_isTold 32 = .ok (.invokevirtual 203, 3) := by decide +kernel
theorem dX6_isTold_35 : decode cX6_isTold 35 = .ok (.aload_n 0, 1) := by decide +kernel
theorem dX6_isTold_36 : decode cX6_isTold 36 = .ok (.getfield 46, 3) := by decide +kernel
theorem dX6_isTold_39 : decode cX6_isTold 39 = .ok (.bipush 40, 2) := by decide +kernel
theorem dX6_isTold_41 : decode cX6_isTold 41 = .ok (.iload_n 1, 1) := by decide +kernel
theorem dX6_isTold_42 : decode cX6_isTold 42 = .ok (.imul, 1) := by decide +kernel
theorem dX6_isTold_43 : decode cX6_isTold 43 = .ok (.iload 4, 2) := by decide +kernel
theorem dX6_isTold_45 : decode cX6_isTold 45 = .ok (.iadd, 1) := by decide +kernel
theorem dX6_isTold_46 : decode cX6_isTold 46 = .ok (.iaload, 1) := by decide +kernel
theorem dX6_isTold_47 : decode cX6_isTold 47 = .ok (.iconst (-1), 1) := by decide +kernel
theorem dX6_isTold_48 : decode cX6_isTold 48 = .ok (.if_icmp .eq 24, 3) := by decide +kernel
theorem dX6_isTold_51 : decode cX6_isTold 51 = .ok (.aload_n 0, 1) := by decide +kernel
theorem dX6_isTold_52 : decode cX6_isTold 52 = .ok (.getfield 46, 3) := by decide +kernel
theorem dX6_isTold_55 : decode cX6_isTold 55 = .ok (.bipush 40, 2) := by decide +kernel
theorem dX6_isTold_57 : decode cX6_isTold 57 = .ok (.iload_n 1, 1) := by decide +kernel
theorem dX6_isTold_58 : decode cX6_isTold 58 = .ok (.imul, 1) := by decide +kernel
theorem dX6_isTold_59 : decode cX6_isTold 59 = .ok (.iload 4, 2) := by decide +kernel
theorem dX6_isTold_61 : decode cX6_isTold 61 = .ok (.iadd, 1) := by decide +kernel
theorem dX6_isTold_62 : decode cX6_isTold 62 = .ok (.iaload, 1) := by decide +kernel
theorem dX6_isTold_63 : decode cX6_isTold 63 = .ok (.aload_n 0, 1) := by decide +kernel
theorem dX6_isTold_64 : decode cX6_isTold 64 = .ok (.iload_n 2, 1) := by decide +kernel
theorem dX6_isTold_65 : decode cX6_isTold 65 = .ok (.iconst 3, 1) := by decide +kernel
theorem dX6_isTold_66 : decode cX6_isTold 66 = .ok (.invokevirtual 182, 3) := by decide +kernel
theorem dX6_isTold_69 : decode cX6_isTold 69 = .ok (.if_icmp .ne 7, 3) := by decide +kernel
theorem dX6_isTold_72 : decode cX6_isTold 72 = .ok (.iconst 1, 1) := by decide +kernel
theorem dX6_isTold_73 : decode cX6_isTold 73 = .ok (.goto 4, 3) := by decide +kernel
theorem dX6_isTold_76 : decode cX6_isTold 76 = .ok (.iconst 0, 1) := by decide +kernel
theorem dX6_isTold_77 : decode cX6_isTold 77 = .ok (.istore_n 3, 1) := by decide +kernel
theorem dX6_isTold_78 : decode cX6_isTold 78 = .ok (.iinc 4 1, 3) := by decide +kernel
theorem dX6_isTold_81 : decode cX6_isTold 81 = .ok (.goto (-65), 3) := by decide +kernel
theorem dX6_isTold_84 : decode cX6_isTold 84 = .ok (.aload_n 0, 1) := by decide +kernel
theorem dX6_isTold_85 : decode cX6_isTold 85 = .ok (.getfield 16, 3) := by decide +kernel
theorem dX6_isTold_88 : decode cX6_isTold 88 = .ok (.aload_n 0, 1) := by decide +kernel
theorem dX6_isTold_89 : decode cX6_isTold 89 = .ok (.getfield 7, 3) := by decide +kernel
theorem dX6_isTold_92 : decode cX6_isTold 92 = .ok (.invokestatic 158, 3) := by decide +kernel
theorem dX6_isTold_95 : decode cX6_isTold 95 = .ok (.iload_n 3, 1) := by decide +kernel
theorem dX6_isTold_96 : decode cX6_isTold 96 = .ok (.ireturn, 1) := by decide +kernel
theorem dX6_fits_0 : decode cX6_fits 0 = .ok (.iload_n 1, 1) := by decide +kernel
theorem dX6_fits_1 : decode cX6_fits 1 = .ok (.invokestatic 257, 3) := by decide +kernel
theorem dX6_fits_4 : decode cX6_fits 4 = .ok (.ifCond .eq 21, 3) := by decide +kernel
theorem dX6_fits_7 : decode cX6_fits 7 = .ok (.aload_n 0, 1) := by decide +kernel
theorem dX6_fits_8 : decode cX6_fits 8 = .ok (.iload_n 2, 1) := by decide +kernel
theorem dX6_fits_9 : decode cX6_fits 9 = .ok (.invokevirtual 191, 3) := by decide +kernel
theorem dX6_fits_12 : decode cX6_fits 12 = .ok (.ifCond .eq 13, 3) := by decide +kernel
theorem dX6_fits_15 : decode cX6_fits 15 = .ok (.iload_n 3, 1) := by decide +kernel
theorem dX6_fits_16 : decode cX6_fits 16 = .ok (.i2l, 1) := by decide +kernel
theorem dX6_fits_17 : decode cX6_fits 17 = .ok (.lconst 0, 1) := by decide +kernel
theorem dX6_fits_18 : decode cX6_fits 18 = .ok (.lconst 1, 1) := by decide +kernel
theorem dX6_fits_19 : decode cX6_fits 19 = .ok (.invokestatic 70, 3) := by decide +kernel
theorem dX6_fits_22 : decode cX6_fits 22 = .ok (.ifCond .ne 5, 3) := by decide +kernel
theorem dX6_fits_25 : decode cX6_fits 25 = .ok (.iconst (-1), 1) := by decide +kernel
theorem dX6_fits_26 : decode cX6_fits 26 = .ok (.ireturn, 1) := by decide +kernel
theorem dX6_fits_27 : decode cX6_fits 27 = .ok (.aload_n 0, 1) := by decide +kernel
theorem dX6_fits_28 : decode cX6_fits 28 = .ok (.getfield 40, 3) := by decide +kernel
theorem dX6_fits_31 : decode cX6_fits 31 = .ok (.iload_n 1, 1) := by decide +kernel
theorem dX6_fits_32 : decode cX6_fits 32 = .ok (.iaload, 1) := by decide +kernel
theorem dX6_fits_33 : decode cX6_fits 33 = .ok (.ifCond .ge 6, 3) := by decide +kernel
theorem dX6_fits_36 : decode cX6_fits 36 = .ok (.bipush (-11), 2) := by decide +kernel
theorem dX6_fits_38 : decode cX6_fits 38 = .ok (.ireturn, 1) := by decide +kernel
theorem dX6_fits_39 : decode cX6_fits 39 = .ok (.bipush 24, 2) := by decide +kernel
theorem dX6_fits_41 : decode cX6_fits 41 = .ok (.iconst 4, 1) := by decide +kernel
theorem dX6_fits_42 : decode cX6_fits 42 = .ok (.iload_n 2, 1) := by decide +kernel
theorem dX6_fits_43 : decode cX6_fits 43 = .ok (.imul, 1) := by decide +kernel
theorem dX6_fits_44 : decode cX6_fits 44 = .ok (.iadd, 1) := by decide +kernel
theorem dX6_fits_45 : decode cX6_fits 45 = .ok (.iconst 3, 1) := by decide +kernel
theorem dX6_fits_46 : decode cX6_fits 46 = .ok (.iadd, 1) := by decide +kernel
theorem dX6_fits_47 : decode cX6_fits 47 = .ok (.istore 4, 2) := by decide +kernel
theorem dX6_fits_49 : decode cX6_fits 49 = .ok (.aload_n 0, 1) := by decide +kernel
theorem dX6_fits_50 : decode cX6_fits 50 = .ok (.getfield 7, 3) := by decide +kernel
theorem dX6_fits_53 : decode cX6_fits 53 = .ok (.iload 4, 2) := by decide +kernel
theorem dX6_fits_55 : decode cX6_fits 55 = .ok (.iaload, 1) := by decide +kernel
theorem dX6_fits_56 : decode cX6_fits 56 = .ok (.istore 5, 2) := by decide +kernel
theorem dX6_fits_58 : decode cX6_fits 58 = .ok (.iconst 0, 1) := by decide +kernel
theorem dX6_fits_59 : decode cX6_fits 59 = .ok (.istore 6, 2) := by decide +kernel
theorem dX6_fits_61 : decode cX6_fits 61 = .ok (.bipush (-3), 2) := by decide +kernel
theorem dX6_fits_63 : decode cX6_fits 63 = .ok (.istore 7, 2) := by decide +kernel
theorem dX6_fits_65 : decode cX6_fits 65 = .ok (.bipush 15, 2) := by decide +kernel
theorem dX6_fits_67 : decode cX6_fits 67 = .ok (.istore 8, 2) := by decide +kernel
theorem dX6_fits_69 : decode cX6_fits 69 = .ok (.iload 8, 2) := by decide +kernel
theorem dX6_fits_71 : decode cX6_fits 71 = .ok (.ifCond .lt 55, 3) := by decide +kernel
theorem dX6_fits_74 : decode cX6_fits 74 = .ok (.aload_n 0, 1) := by decide +kernel
theorem dX6_fits_75 : decode cX6_fits 75 = .ok (.getfield 7, 3) := by decide +kernel
theorem dX6_fits_78 : decode cX6_fits 78 = .ok (.iload 4, 2) := by decide +kernel
theorem dX6_fits_80 : decode cX6_fits 80 = .ok (.iload 8, 2) := by decide +kernel
theorem dX6_fits_82 : decode cX6_fits 82 = .ok (.iastore, 1) := by decide +kernel
theorem dX6_fits_83 : decode cX6_fits 83 = .ok (.aload_n 0, 1) := by decide +kernel
theorem dX6_fits_84 : decode cX6_fits 84 = .ok (.iload_n 1, 1) := by decide +kernel
theorem dX6_fits_85 : decode cX6_fits 85 = .ok (.iload_n 2, 1) := by decide +kernel
theorem dX6_fits_86 : decode cX6_fits 86 = .ok (.invokevirtual 260, 3) := by decide +kernel
theorem dX6_fits_89 : decode cX6_fits 89 = .ok (.istore 9, 2) := by decide +kernel
theorem dX6_fits_91 : decode cX6_fits 91 = .ok (.iload 6, 2) := by decide +kernel
theorem dX6_fits_93 : decode cX6_fits 93 = .ok (.iload 9, 2) := by decide +kernel
theorem dX6_fits_95 : decode cX6_fits 95 = .ok (.ifCond .eq 7, 3) := by decide +kernel
theorem dX6_fits_98 : decode cX6_fits 98 = .ok (.iconst 1, 1) := by decide +kernel
theorem dX6_fits_99 : decode cX6_fits 99 = .ok (.goto 4, 3) := by decide +kernel
theorem dX6_fits_102 : decode cX6_fits 102 = .ok (.iconst 0, 1) := by decide +kernel
theorem dX6_fits_103 : decode cX6_fits 103 = .ok (.iadd, 1) := by decide +kernel
theorem dX6_fits_104 : decode cX6_fits 104 = .ok (.istore 6, 2) := by decide +kernel
theorem dX6_fits_106 : decode cX6_fits 106 = .ok (.iload 9, 2) := by decide +kernel
theorem dX6_fits_108 : decode cX6_fits 108 = .ok (.ifCond .eq 8, 3) := by decide +kernel
theorem dX6_fits_111 : decode cX6_fits 111 = .ok (.iload 8, 2) := by decide +kernel
theorem dX6_fits_113 : decode cX6_fits 113 = .ok (.goto 5, 3) := by decide +kernel
theorem dX6_fits_116 : decode cX6_fits 116 = .ok (.iload 7, 2) := by decide +kernel
theorem dX6_fits_118 : decode cX6_fits 118 = .ok (.istore 7, 2) := by decide +kernel
theorem dX6_fits_120 : decode cX6_fits 120 = .ok (.iinc 8 (-1), 3) := by decide +kernel
theorem dX6_fits_123 : decode cX6_fits 123 = .ok (.goto (-54), 3) := by decide +kernel
theorem dX6_fits_126 : decode cX6_fits 126 = .ok (.aload_n 0, 1) := by decide +kernel
theorem dX6_fits_127 : decode cX6_fits 127 = .ok (.getfield 7, 3) := by decide +kernel
theorem dX6_fits_130 : decode cX6_fits 130 = .ok (.iload 4, 2) := by decide +kernel
theorem dX6_fits_132 : decode cX6_fits 132 = .ok (.iload 5, 2) := by decide +kernel
theorem dX6_fits_134 : decode cX6_fits 134 = .ok (.iastore, 1) := by decide +kernel
theorem dX6_fits_135 : decode cX6_fits 135 = .ok (.iload_n 3, 1) := by decide +kernel
theorem dX6_fits_136 : decode cX6_fits 136 = .ok (.ifCond .ne 8, 3) := by decide +kernel
theorem dX6_fits_139 : decode cX6_fits 139 = .ok (.iload 6, 2) := by decide +kernel
theorem dX6_fits_141 : decode cX6_fits 141 = .ok (.goto 5, 3) := by decide +kernel
theorem dX6_fits_144 : decode cX6_fits 144 = .ok (.iload 7, 2) := by decide +kernel
theorem dX6_fits_146 : decode cX6_fits 146 = .ok (.ireturn, 1) := by decide +kernel
theorem dX6_odds_0 : decode cX6_odds 0 = .ok (.iload_n 1, 1) := by decide +kernel
theorem dX6_odds_1 : decode cX6_odds 1 = .ok (.i2l, 1) := by decide +kernel
theorem dX6_odds_2 : decode cX6_odds 2 = .ok (.lconst 0, 1) := by decide +kernel
theorem dX6_odds_3 : decode cX6_odds 3 = .ok (.ldc2_w 68, 3) := by decide +kernel
theorem dX6_odds_6 : decode cX6_odds 6 = .ok (.invokestatic 70, 3) := by decide +kernel
theorem dX6_odds_9 : decode cX6_odds 9 = .ok (.ifCond .eq 24, 3) := by decide +kernel
theorem dX6_odds_12 : decode cX6_odds 12 = .ok (.iload_n 2, 1) := by decide +kernel
theorem dX6_odds_13 : decode cX6_odds 13 = .ok (.i2l, 1) := by decide +kernel
theorem dX6_odds_14 : decode cX6_odds 14 = .ok (.lconst 0, 1) := by decide +kernel
theorem dX6_odds_15 : decode cX6_odds 15 = .ok (.iload_n 1, 1) := by decide +kernel
theorem dX6_odds_16 : decode cX6_odds 16 = .ok (.i2l, 1) := by decide +kernel
theorem dX6_odds_17 : decode cX6_odds 17 = .ok (.invokestatic 70, 3) := by decide +kernel
theorem dX6_odds_20 : decode cX6_odds 20 = .ok (.ifCond .eq 13, 3) := by decide +kernel
theorem dX6_odds_23 : decode cX6_odds 23 = .ok (.iload_n 3, 1) := by decide +kernel
theorem dX6_odds_24 : decode cX6_odds 24 = .ok (.i2l, 1) := by decide +kernel
theorem dX6_odds_25 : decode cX6_odds 25 = .ok (.lconst 0, 1) := by decide +kernel
theorem dX6_odds_26 : decode cX6_odds 26 = .ok (.lconst 1, 1) := by decide +kernel
theorem dX6_odds_27 : decode cX6_odds 27 = .ok (.invokestatic 70, 3) := by decide +kernel
theorem dX6_odds_30 : decode cX6_odds 30 = .ok (.ifCond .ne 7, 3) := by decide +kernel
theorem dX6_odds_33 : decode cX6_odds 33 = .ok (.ldc2_w 263, 3) := by decide +kernel
theorem dX6_odds_36 : decode cX6_odds 36 = .ok (.lreturn, 1) := by decide +kernel
theorem dX6_odds_37 : decode cX6_odds 37 = .ok (.iload_n 1, 1) := by decide +kernel
theorem dX6_odds_38 : decode cX6_odds 38 = .ok (.invokestatic 265, 3) := by decide +kernel
theorem dX6_odds_41 : decode cX6_odds 41 = .ok (.iload_n 2, 1) := by decide +kernel
theorem dX6_odds_42 : decode cX6_odds 42 = .ok (.invokestatic 265, 3) := by decide +kernel
theorem dX6_odds_45 : decode cX6_odds 45 = .ok (.ldiv, 1) := by decide +kernel
theorem dX6_odds_46 : decode cX6_odds 46 = .ok (.iload_n 1, 1) := by decide +kernel
theorem dX6_odds_47 : decode cX6_odds 47 = .ok (.iload_n 2, 1) := by decide +kernel
theorem dX6_odds_48 : decode cX6_odds 48 = .ok (.isub, 1) := by decide +kernel
theorem dX6_odds_49 : decode cX6_odds 49 = .ok (.invokestatic 265, 3) := by decide +kernel
theorem dX6_odds_52 : decode cX6_odds 52 = .ok (.ldiv, 1) := by decide +kernel
theorem dX6_odds_53 : decode cX6_odds 53 = .ok (.lstore 4, 2) := by decide +kernel
theorem dX6_odds_55 : decode cX6_odds 55 = .ok (.lconst 1, 1) := by decide +kernel
theorem dX6_odds_56 : decode cX6_odds 56 = .ok (.lstore 6, 2) := by decide +kernel
theorem dX6_odds_58 : decode cX6_odds 58 = .ok (.iconst 0, 1) := by decide +kernel
theorem dX6_odds_59 : decode cX6_odds 59 = .ok (.istore 8, 2) := by decide +kernel
theorem dX6_odds_61 : decode cX6_odds 61 = .ok (.iload 8, 2) := by decide +kernel
theorem dX6_odds_63 : decode cX6_odds 63 = .ok (.iload_n 1, 1) := by decide +kernel
theorem dX6_odds_64 : decode cX6_odds 64 = .ok (.if_icmp .ge 50, 3) := by decide +kernel
theorem dX6_odds_67 : decode cX6_odds 67 = .ok (.lload 4, 2) := by decide +kernel
theorem dX6_odds_69 : decode cX6_odds 69 = .ok (.iload 8, 2) := by decide +kernel
theorem dX6_odds_71 : decode cX6_odds 71 = .ok (.iload_n 2, 1) := by decide +kernel
theorem dX6_odds_72 : decode cX6_odds 72 = .ok (.if_icmp .ge 14, 3) := by decide +kernel
theorem dX6_odds_75 : decode cX6_odds 75 = .ok (.aload_n 0, 1) := by decide +kernel
theorem dX6_odds_76 : decode cX6_odds 76 = .ok (.getfield 7, 3) := by decide +kernel
theorem dX6_odds_79 : decode cX6_odds 79 = .ok (.bipush 7, 2) := by decide +kernel
theorem dX6_odds_81 : decode cX6_odds 81 = .ok (.iaload, 1) := by decide +kernel
theorem dX6_odds_82 : decode cX6_odds 82 = .ok (.i2l, 1) := by decide +kernel
theorem dX6_odds_83 : decode cX6_odds 83 = .ok (.goto 14, 3) := by decide +kernel
theorem dX6_odds_86 : decode cX6_odds 86 = .ok (.bipush 100, 2) := by decide +kernel
theorem dX6_odds_88 : decode cX6_odds 88 = .ok (.aload_n 0, 1) := by decide +kernel
theorem dX6_odds_89 : decode cX6_odds 89 = .ok (.getfield 7, 3) := by decide +kernel
theorem dX6_odds_92 : decode cX6_odds 92 = .ok (.bipush 7, 2) := by decide +kernel
theorem dX6_odds_94 : decode cX6_odds 94 = .ok (.iaload, 1) := by decide +kernel
theorem dX6_odds_95 : decode cX6_odds 95 = .ok (.isub, 1) := by decide +kernel
theorem dX6_odds_96 : decode cX6_odds 96 = .ok (.i2l, 1) := by decide +kernel
theorem dX6_odds_97 : decode cX6_odds 97 = .ok (.lmul, 1) := by decide +kernel
theorem dX6_odds_98 : decode cX6_odds 98 = .ok (.lstore 4, 2) := by decide +kernel
theorem dX6_odds_100 : decode cX6_odds 100 = .ok (.lload 6, 2) := by decide +kernel
theorem dX6_odds_102 : decode cX6_odds 102 = .ok (.ldc2_w 269, 3) := by decide +kernel
theorem dX6_odds_105 : decode cX6_odds 105 = .ok (.lmul, 1) := by decide +kernel
theorem dX6_odds_106 : decode cX6_odds 106 = .ok (.lstore 6, 2) := by decide +kernel
theorem dX6_odds_108 : decode cX6_odds 108 = .ok (.iinc 8 1, 3) := by decide +kernel
theorem dX6_odds_111 : decode cX6_odds 111 = .ok (.goto (-50), 3) := by decide +kernel
theorem dX6_odds_114 : decode cX6_odds 114 = .ok (.lload 4, 2) := by decide +kernel
theorem dX6_odds_116 : decode cX6_odds 116 = .ok (.lload 6, 2) := by decide +kernel
theorem dX6_odds_118 : decode cX6_odds 118 = .ok (.iload_n 3, 1) := by decide +kernel
theorem dX6_odds_119 : decode cX6_odds 119 = .ok (.invokestatic 271, 3) := by decide +kernel
theorem dX6_odds_122 : decode cX6_odds 122 = .ok (.lreturn, 1) := by decide +kernel
theorem dX6_hope_0 : decode cX6_hope 0 = .ok (.iload_n 1, 1) := by decide +kernel
theorem dX6_hope_1 : decode cX6_hope 1 = .ok (.i2l, 1) := by decide +kernel
theorem dX6_hope_2 : decode cX6_hope 2 = .ok (.lconst 0, 1) := by decide +kernel
theorem dX6_hope_3 : decode cX6_hope 3 = .ok (.ldc2_w 170, 3) := by decide +kernel
theorem dX6_hope_6 : decode cX6_hope 6 = .ok (.invokestatic 70, 3) := by decide +kernel
theorem dX6_hope_9 : decode cX6_hope 9 = .ok (.ifCond .eq 34, 3) := by decide +kernel
theorem dX6_hope_12 : decode cX6_hope 12 = .ok (.iload_n 2, 1) := by decide +kernel
theorem dX6_hope_13 : decode cX6_hope 13 = .ok (.i2l, 1) := by decide +kernel
theorem dX6_hope_14 : decode cX6_hope 14 = .ok (.lconst 0, 1) := by decide +kernel
theorem dX6_hope_15 : decode cX6_hope 15 = .ok (.lconst 1, 1) := by decide +kernel
theorem dX6_hope_16 : decode cX6_hope 16 = .ok (.invokestatic 70, 3) := by decide +kernel
theorem dX6_hope_19 : decode cX6_hope 19 = .ok (.ifCond .eq 24, 3) := by decide +kernel
theorem dX6_hope_22 : decode cX6_hope 22 = .ok (.iload_n 1, 1) := by decide +kernel
theorem dX6_hope_23 : decode cX6_hope 23 = .ok (.i2l, 1) := by decide +kernel
theorem dX6_hope_24 : decode cX6_hope 24 = .ok (.aload_n 0, 1) := by decide +kernel
theorem dX6_hope_25 : decode cX6_hope 25 = .ok (.getfield 7, 3) := by decide +kernel
theorem dX6_hope_28 : decode cX6_hope 28 = .ok (.bipush 7, 2) := by decide +kernel
theorem dX6_hope_30 : decode cX6_hope 30 = .ok (.iaload, 1) := by decide +kernel
theorem dX6_hope_31 : decode cX6_hope 31 = .ok (.i2l, 1) := by decide +kernel
theorem dX6_hope_32 : decode cX6_hope 32 = .ok (.lmul, 1) := by decide +kernel
theorem dX6_hope_33 : decode cX6_hope 33 = .ok (.ldc2_w 269, 3) := by decide +kernel
theorem dX6_hope_36 : decode cX6_hope 36 = .ok (.iload_n 2, 1) := by decide +kernel
theorem dX6_hope_37 : decode cX6_hope 37 = .ok (.invokestatic 271, 3) := by decide +kernel
theorem dX6_hope_40 : decode cX6_hope 40 = .ok (.goto 6, 3) := by decide +kernel
theorem dX6_hope_43 : decode cX6_hope 43 = .ok (.ldc2_w 263, 3) := by decide +kernel
theorem dX6_hope_46 : decode cX6_hope 46 = .ok (.lreturn, 1) := by decide +kernel
theorem dX6_prove_0 : decode cX6_prove 0 = .ok (.aload_n 0, 1) := by decide +kernel
theorem dX6_prove_1 : decode cX6_prove 1 = .ok (.iload_n 1, 1) := by decide +kernel
theorem dX6_prove_2 : decode cX6_prove 2 = .ok (.invokevirtual 191, 3) := by decide +kernel
theorem dX6_prove_5 : decode cX6_prove 5 = .ok (.ifCond .eq 15, 3) := by decide +kernel
theorem dX6_prove_8 : decode cX6_prove 8 = .ok (.iload_n 2, 1) := by decide +kernel
theorem dX6_prove_9 : decode cX6_prove 9 = .ok (.i2l, 1) := by decide +kernel
theorem dX6_prove_10 : decode cX6_prove 10 = .ok (.lconst 1, 1) := by decide +kernel
theorem dX6_prove_11 : decode cX6_prove 11 = .ok (.ldc2_w 275, 3) := by decide +kernel
theorem dX6_prove_14 : decode cX6_prove 14 = .ok (.invokestatic 70, 3) := by decide +kernel
theorem dX6_prove_17 : decode cX6_prove 17 = .ok (.ifCond .ne 5, 3) := by decide +kernel
theorem dX6_prove_20 : decode cX6_prove 20 = .ok (.iconst (-1), 1) := by decide +kernel
theorem dX6_prove_21 : decode cX6_prove 21 = .ok (.ireturn, 1) := by decide +kernel
theorem dX6_prove_22 : decode cX6_prove 22 = .ok (.aload_n 0, 1) := by decide +kernel
theorem dX6_prove_23 : decode cX6_prove 23 = .ok (.getfield 7, 3) := by decide +kernel
theorem dX6_prove_26 : decode cX6_prove 26 = .ok (.aload_n 0, 1) := by decide +kernel
theorem dX6_prove_27 : decode cX6_prove 27 = .ok (.getfield 16, 3) := by decide +kernel
theorem dX6_prove_30 : decode cX6_prove 30 = .ok (.invokestatic 158, 3) := by decide +kernel
theorem dX6_prove_33 : decode cX6_prove 33 = .ok (.iconst 0, 1) := by decide +kernel
theorem dX6_prove_34 : decode cX6_prove 34 = .ok (.istore_n 3, 1) := by decide +kernel
theorem dX6_prove_35 : decode cX6_prove 35 = .ok (.iload_n 3, 1) := by decide +kernel
theorem dX6_prove_36 : decode cX6_prove 36 = .ok (.iload_n 2, 1) := by decide +kernel
theorem dX6_prove_37 : decode cX6_prove 37 = .ok (.if_icmp .ge 66, 3) := by decide +kernel
theorem dX6_prove_40 : decode cX6_prove 40 = .ok (.aload_n 0, 1) := by decide +kernel
theorem dX6_prove_41 : decode cX6_prove 41 = .ok (.invokevirtual 203, 3) := by decide +kernel
theorem dX6_prove_44 : decode cX6_prove 44 = .ok (.aload_n 0, 1) := by decide +kernel
theorem dX6_prove_45 : decode cX6_prove 45 = .ok (.getfield 37, 3) := by decide +kernel
theorem dX6_prove_48 : decode cX6_prove 48 = .ok (.iconst 3, 1) := by decide +kernel
theorem dX6_prove_49 : decode cX6_prove 49 = .ok (.iload_n 3, 1) := by decide +kernel
theorem dX6_prove_50 : decode cX6_prove 50 = .ok (.imul, 1) := by decide +kernel
theorem dX6_prove_51 : decode cX6_prove 51 = .ok (.aload_n 0, 1) := by decide +kernel
theorem dX6_prove_52 : decode cX6_prove 52 = .ok (.iload_n 1, 1) := by decide +kernel
theorem dX6_prove_53 : decode cX6_prove 53 = .ok (.iconst 3, 1) := by decide +kernel
theorem dX6_prove_54 : decode cX6_prove 54 = .ok (.invokevirtual 182, 3) := by decide +kernel
theorem dX6_prove_57 : decode cX6_prove 57 = .ok (.iastore, 1) := by decide +kernel
theorem dX6_prove_58 : decode cX6_prove 58 = .ok (.aload_n 0, 1) := by decide +kernel
theorem dX6_prove_59 : decode cX6_prove 59 = .ok (.getfield 37, 3) := by decide +kernel
theorem dX6_prove_62 : decode cX6_prove 62 = .ok (.iconst 3, 1) := by decide +kernel
theorem dX6_prove_63 : decode cX6_prove 63 = .ok (.iload_n 3, 1) := by decide +kernel
theorem dX6_prove_64 : decode cX6_prove 64 = .ok (.imul, 1) := by decide +kernel
theorem dX6_prove_65 : decode cX6_prove 65 = .ok (.iconst 1, 1) := by decide +kernel
theorem dX6_prove_66 : decode cX6_prove 66 = .ok (.iadd, 1) := by decide +kernel
theorem dX6_prove_67 : decode cX6_prove 67 = .ok (.aload_n 0, 1) := by decide +kernel
theorem dX6_prove_68 : decode cX6_prove 68 = .ok (.getfield 7, 3) := by decide +kernel
theorem dX6_prove_71 : decode cX6_prove 71 = .ok (.bipush 8, 2) := by decide +kernel
theorem dX6_prove_73 : decode cX6_prove 73 = .ok (.aload_n 0, 1) := by decide +kernel
theorem dX6_prove_74 : decode cX6_prove 74 = .ok (.iload_n 1, 1) := by decide +kernel
theorem dX6_prove_75 : decode cX6_prove 75 = .ok (.iconst 3, 1) := by decide +kernel
theorem dX6_prove_76 : decode cX6_prove 76 = .ok (.invokevirtual 182, 3) := by decide +kernel
theorem dX6_prove_79 : decode cX6_prove 79 = .ok (.iadd, 1) := by decide +kernel
theorem dX6_prove_80 : decode cX6_prove 80 = .ok (.iaload, 1) := by decide +kernel
theorem dX6_prove_81 : decode cX6_prove 81 = .ok (.iastore, 1) := by decide +kernel
theorem dX6_prove_82 : decode cX6_prove 82 = .ok (.aload_n 0, 1) := by decide +kernel
theorem dX6_prove_83 : decode cX6_prove 83 = .ok (.getfield 37, 3) := by decide +kernel
theorem dX6_prove_86 : decode cX6_prove 86 = .ok (.iconst 3, 1) := by decide +kernel
theorem dX6_prove_87 : decode cX6_prove 87 = .ok (.iload_n 3, 1) := by decide +kernel
theorem dX6_prove_88 : decode cX6_prove 88 = .ok (.imul, 1) := by decide +kernel
theorem dX6_prove_89 : decode cX6_prove 89 = .ok (.iconst 2, 1) := by decide +kernel
theorem dX6_prove_90 : decode cX6_prove 90 = .ok (.iadd, 1) := by decide +kernel
theorem dX6_prove_91 : decode cX6_prove 91 = .ok (.aload_n 0, 1) := by decide +kernel
theorem dX6_prove_92 : decode cX6_prove 92 = .ok (.iload_n 1, 1) := by decide +kernel
theorem dX6_prove_93 : decode cX6_prove 93 = .ok (.invokevirtual 241, 3) := by decide +kernel
theorem dX6_prove_96 : decode cX6_prove 96 = .ok (.iastore, 1) := by decide +kernel
theorem dX6_prove_97 : decode cX6_prove 97 = .ok (.iinc 3 1, 3) := by decide +kernel
theorem dX6_prove_100 : decode cX6_prove 100 = .ok (.goto (-65), 3) := by decide +kernel
theorem dX6_prove_103 : decode cX6_prove 103 = .ok (.aload_n 0, 1) := by decide +kernel
theorem dX6_prove_104 : decode cX6_prove 104 = .ok (.getfield 16, 3) := by decide +kernel
theorem dX6_prove_107 : decode cX6_prove 107 = .ok (.aload_n 0, 1) := by decide +kernel
theorem dX6_prove_108 : decode cX6_prove 108 = .ok (.getfield 7, 3) := by decide +kernel
theorem dX6_prove_111 : decode cX6_prove 111 = .ok (.invokestatic 158, 3) := by decide +kernel
theorem dX6_prove_114 : decode cX6_prove 114 = .ok (.aload_n 0, 1) := by decide +kernel
theorem dX6_prove_115 : decode cX6_prove 115 = .ok (.iload_n 2, 1) := by decide +kernel
theorem dX6_prove_116 : decode cX6_prove 116 = .ok (.putfield 165, 3) := by decide +kernel
theorem dX6_prove_119 : decode cX6_prove 119 = .ok (.iload_n 2, 1) := by decide +kernel
theorem dX6_prove_120 : decode cX6_prove 120 = .ok (.ireturn, 1) := by decide +kernel
theorem dX6_isRow_0 : decode cX6_isRow 0 = .ok (.iload_n 1, 1) := by decide +kernel
theorem dX6_isRow_1 : decode cX6_isRow 1 = .ok (.i2l, 1) := by decide +kernel
theorem dX6_isRow_2 : decode cX6_isRow 2 = .ok (.lconst 0, 1) := by decide +kernel
theorem dX6_isRow_3 : decode cX6_isRow 3 = .ok (.aload_n 0, 1) := by decide +kernel
theorem dX6_isRow_4 : decode cX6_isRow 4 = .ok (.getfield 165, 3) := by decide +kernel
theorem dX6_isRow_7 : decode cX6_isRow 7 = .ok (.iconst 1, 1) := by decide +kernel
theorem dX6_isRow_8 : decode cX6_isRow 8 = .ok (.isub, 1) := by decide +kernel
theorem dX6_isRow_9 : decode cX6_isRow 9 = .ok (.i2l, 1) := by decide +kernel
theorem dX6_isRow_10 : decode cX6_isRow 10 = .ok (.invokestatic 70, 3) := by decide +kernel
theorem dX6_isRow_13 : decode cX6_isRow 13 = .ok (.ifCond .eq 19, 3) := by decide +kernel
theorem dX6_isRow_16 : decode cX6_isRow 16 = .ok (.iload_n 2, 1) := by decide +kernel
theorem dX6_isRow_17 : decode cX6_isRow 17 = .ok (.i2l, 1) := by decide +kernel
theorem dX6_isRow_18 : decode cX6_isRow 18 = .ok (.lconst 0, 1) := by decide +kernel
theorem dX6_isRow_19 : decode cX6_isRow 19 = .ok (.ldc2_w 277, 3) := by decide +kernel
theorem dX6_isRow_22 : decode cX6_isRow 22 = .ok (.invokestatic 70, 3) := by decide +kernel
theorem dX6_isRow_25 : decode cX6_isRow 25 = .ok (.ifCond .eq 7, 3) := by decide +kernel
theorem dX6_isRow_28 : decode cX6_isRow 28 = .ok (.iconst 1, 1) := by decide +kernel
theorem dX6_isRow_29 : decode cX6_isRow 29 = .ok (.goto 4, 3) := by decide +kernel
theorem dX6_isRow_32 : decode cX6_isRow 32 = .ok (.iconst 0, 1) := by decide +kernel
theorem dX6_isRow_33 : decode cX6_isRow 33 = .ok (.ireturn, 1) := by decide +kernel
theorem dX6_row_0 : decode cX6_row 0 = .ok (.aload_n 0, 1) := by decide +kernel
theorem dX6_row_1 : decode cX6_row 1 = .ok (.iload_n 1, 1) := by decide +kernel
theorem dX6_row_2 : decode cX6_row 2 = .ok (.iload_n 2, 1) := by decide +kernel
theorem dX6_row_3 : decode cX6_row 3 = .ok (.invokevirtual 279, 3) := by decide +kernel
theorem dX6_row_6 : decode cX6_row 6 = .ok (.ifCond .eq 16, 3) := by decide +kernel
theorem dX6_row_9 : decode cX6_row 9 = .ok (.aload_n 0, 1) := by decide +kernel
theorem dX6_row_10 : decode cX6_row 10 = .ok (.getfield 37, 3) := by decide +kernel
theorem dX6_row_13 : decode cX6_row 13 = .ok (.iconst 3, 1) := by decide +kernel
theorem dX6_row_14 : decode cX6_row 14 = .ok (.iload_n 1, 1) := by decide +kernel
theorem dX6_row_15 : decode cX6_row 15 = .ok (.imul, 1) := by decide +kernel
theorem dX6_row_16 : decode cX6_row 16 = .ok (.iload_n 2, 1) := by decide +kernel
theorem dX6_row_17 : decode cX6_row 17 = .ok (.iadd, 1) := by decide +kernel
theorem dX6_row_18 : decode cX6_row 18 = .ok (.iaload, 1) := by decide +kernel
theorem dX6_row_19 : decode cX6_row 19 = .ok (.goto 5, 3) := by decide +kernel
theorem dX6_row_22 : decode cX6_row 22 = .ok (.bipush (-9), 2) := by decide +kernel
theorem dX6_row_24 : decode cX6_row 24 = .ok (.ireturn, 1) := by decide +kernel
theorem dX6_alterRow_0 : decode cX6_alterRow 0 = .ok (.aload_n 0, 1) := by decide +kernel
theorem dX6_alterRow_1 : decode cX6_alterRow 1 = .ok (.iload_n 1, 1) := by decide +kernel
theorem dX6_alterRow_2 : decode cX6_alterRow 2 = .ok (.iload_n 2, 1) := by decide +kernel
theorem dX6_alterRow_3 : decode cX6_alterRow 3 = .ok (.invokevirtual 279, 3) := by decide +kernel
theorem dX6_alterRow_6 : decode cX6_alterRow 6 = .ok (.ifCond .ne 6, 3) := by decide +kernel
theorem dX6_alterRow_9 : decode cX6_alterRow 9 = .ok (.bipush (-9), 2) := by decide +kernel
theorem dX6_alterRow_11 : decode cX6_alterRow 11 = .ok (.ireturn, 1) := by decide +kernel
theorem dX6_alterRow_12 : decode cX6_alterRow 12 = .ok (.aload_n 0, 1) := by decide +kernel
theorem dX6_alterRow_13 : decode cX6_alterRow 13 = .ok (.getfield 37, 3) := by decide +kernel
theorem dX6_alterRow_16 : decode cX6_alterRow 16 = .ok (.iconst 3, 1) := by decide +kernel
theorem dX6_alterRow_17 : decode cX6_alterRow 17 = .ok (.iload_n 1, 1) := by decide +kernel
theorem dX6_alterRow_18 : decode cX6_alterRow 18 = .ok (.imul, 1) := by decide +kernel
theorem dX6_alterRow_19 : decode cX6_alterRow 19 = .ok (.iload_n 2, 1) := by decide +kernel
theorem dX6_alterRow_20 : decode cX6_alterRow 20 = .ok (.iadd, 1) := by decide +kernel
theorem dX6_alterRow_21 : decode cX6_alterRow 21 = .ok (.iaload, 1) := by decide +kernel
theorem dX6_alterRow_22 : decode cX6_alterRow 22 = .ok (.istore 4, 2) := by decide +kernel
theorem dX6_alterRow_24 : decode cX6_alterRow 24 = .ok (.aload_n 0, 1) := by decide +kernel
theorem dX6_alterRow_25 : decode cX6_alterRow 25 = .ok (.getfield 37, 3) := by decide +kernel
theorem dX6_alterRow_28 : decode cX6_alterRow 28 = .ok (.iconst 3, 1) := by decide +kernel
theorem dX6_alterRow_29 : decode cX6_alterRow 29 = .ok (.iload_n 1, 1) := by decide +kernel
theorem dX6_alterRow_30 : decode cX6_alterRow 30 = .ok (.imul, 1) := by decide +kernel
theorem dX6_alterRow_31 : decode cX6_alterRow 31 = .ok (.iload_n 2, 1) := by decide +kernel
theorem dX6_alterRow_32 : decode cX6_alterRow 32 = .ok (.iadd, 1) := by decide +kernel
theorem dX6_alterRow_33 : decode cX6_alterRow 33 = .ok (.iload_n 3, 1) := by decide +kernel
theorem dX6_alterRow_34 : decode cX6_alterRow 34 = .ok (.iastore, 1) := by decide +kernel
theorem dX6_alterRow_35 : decode cX6_alterRow 35 = .ok (.iload 4, 2) := by decide +kernel
theorem dX6_alterRow_37 : decode cX6_alterRow 37 = .ok (.ireturn, 1) := by decide +kernel
theorem dX6_judge_0 : decode cX6_judge 0 = .ok (.aload_n 0, 1) := by decide +kernel
theorem dX6_judge_1 : decode cX6_judge 1 = .ok (.iload_n 1, 1) := by decide +kernel
theorem dX6_judge_2 : decode cX6_judge 2 = .ok (.invokevirtual 191, 3) := by decide +kernel
theorem dX6_judge_5 : decode cX6_judge 5 = .ok (.ifCond .ne 5, 3) := by decide +kernel
theorem dX6_judge_8 : decode cX6_judge 8 = .ok (.iconst (-1), 1) := by decide +kernel
theorem dX6_judge_9 : decode cX6_judge 9 = .ok (.ireturn, 1) := by decide +kernel
theorem dX6_judge_10 : decode cX6_judge 10 = .ok (.aload_n 0, 1) := by decide +kernel
theorem dX6_judge_11 : decode cX6_judge 11 = .ok (.getfield 7, 3) := by decide +kernel
theorem dX6_judge_14 : decode cX6_judge 14 = .ok (.aload_n 0, 1) := by decide +kernel
theorem dX6_judge_15 : decode cX6_judge 15 = .ok (.getfield 16, 3) := by decide +kernel
theorem dX6_judge_18 : decode cX6_judge 18 = .ok (.invokestatic 158, 3) := by decide +kernel
theorem dX6_judge_21 : decode cX6_judge 21 = .ok (.iconst 0, 1) := by decide +kernel
theorem dX6_judge_22 : decode cX6_judge 22 = .ok (.istore_n 2, 1) := by decide +kernel
theorem dX6_judge_23 : decode cX6_judge 23 = .ok (.iconst 1, 1) := by decide +kernel
theorem dX6_judge_24 : decode cX6_judge 24 = .ok (.istore_n 3, 1) := by decide +kernel
theorem dX6_judge_25 : decode cX6_judge 25 = .ok (.iload_n 2, 1) := by decide +kernel
theorem dX6_judge_26 : decode cX6_judge 26 = .ok (.aload_n 0, 1) := by decide +kernel
theorem dX6_judge_27 : decode cX6_judge 27 = .ok (.getfield 165, 3) := by decide +kernel
theorem dX6_judge_30 : decode cX6_judge 30 = .ok (.if_icmp .ge 85, 3) := by decide +kernel
theorem dX6_judge_33 : decode cX6_judge 33 = .ok (.iload_n 3, 1) := by decide +kernel
theorem dX6_judge_34 : decode cX6_judge 34 = .ok (.ifCond .eq 81, 3) := by decide +kernel
theorem dX6_judge_37 : decode cX6_judge 37 = .ok (.aload_n 0, 1) := by decide +kernel
theorem dX6_judge_38 : decode cX6_judge 38 = .ok (.invokevirtual 203, 3) := by decide +kernel
theorem dX6_judge_41 : decode cX6_judge 41 = .ok (.aload_n 0, 1) := by decide +kernel
theorem dX6_judge_42 : decode cX6_judge 42 = .ok (.getfield 37, 3) := by decide +kernel
theorem dX6_judge_45 : decode cX6_judge 45 = .ok (.iconst 3, 1) := by decide +kernel
theorem dX6_judge_46 : decode cX6_judge 46 = .ok (.iload_n 2, 1) := by decide +kernel
theorem dX6_judge_47 : decode cX6_judge 47 = .ok (.imul, 1) := by decide +kernel
theorem dX6_judge_48 : decode cX6_judge 48 = .ok (.iaload, 1) := by decide +kernel
theorem dX6_judge_49 : decode cX6_judge 49 = .ok (.aload_n 0, 1) := by decide +kernel
theorem dX6_judge_50 : decode cX6_judge 50 = .ok (.iload_n 1, 1) := by decide +kernel
theorem dX6_judge_51 : decode cX6_judge 51 = .ok (.iconst 3, 1) := by decide +kernel
theorem dX6_judge_52 : decode cX6_judge 52 = .ok (.invokevirtual 182, 3) := by decide +kernel
theorem dX6_judge_55 : decode cX6_judge 55 = .ok (.if_icmp .ne 52, 3) := by decide +kernel
theorem dX6_judge_58 : decode cX6_judge 58 = .ok (.aload_n 0, 1) := by decide +kernel
theorem dX6_judge_59 : decode cX6_judge 59 = .ok (.getfield 37, 3) := by decide +kernel
theorem dX6_judge_62 : decode cX6_judge 62 = .ok (.iconst 3, 1) := by decide +kernel
theorem dX6_judge_63 : decode cX6_judge 63 = .ok (.iload_n 2, 1) := by decide +kernel
theorem dX6_judge_64 : decode cX6_judge 64 = .ok (.imul, 1) := by decide +kernel
theorem dX6_judge_65 : decode cX6_judge 65 = .ok (.iconst 1, 1) := by decide +kernel
theorem dX6_judge_66 : decode cX6_judge 66 = .ok (.iadd, 1) := by decide +kernel
theorem dX6_judge_67 : decode cX6_judge 67 = .ok (.iaload, 1) := by decide +kernel
theorem dX6_judge_68 : decode cX6_judge 68 = .ok (.aload_n 0, 1) := by decide +kernel
theorem dX6_judge_69 : decode cX6_judge 69 = .ok (.getfield 7, 3) := by decide +kernel
theorem dX6_judge_72 : decode cX6_judge 72 = .ok (.bipush 8, 2) := by decide +kernel
theorem dX6_judge_74 : decode cX6_judge 74 = .ok (.aload_n 0, 1) := by decide +kernel
theorem dX6_judge_75 : decode cX6_judge 75 = .ok (.iload_n 1, 1) := by decide +kernel
theorem dX6_judge_76 : decode cX6_judge 76 = .ok (.iconst 3, 1) := by decide +kernel
theorem dX6_judge_77 : decode cX6_judge 77 = .ok (.invokevirtual 182, 3) := by decide +kernel
theorem dX6_judge_80 : decode cX6_judge 80 = .ok (.iadd, 1) := by decide +kernel
theorem dX6_judge_81 : decode cX6_judge 81 = .ok (.iaload, 1) := by decide +kernel
theorem dX6_judge_82 : decode cX6_judge 82 = .ok (.if_icmp .ne 25, 3) := by decide +kernel
theorem dX6_judge_85 : decode cX6_judge 85 = .ok (.aload_n 0, 1) := by decide +kernel
theorem dX6_judge_86 : decode cX6_judge 86 = .ok (.getfield 37, 3) := by decide +kernel
theorem dX6_judge_89 : decode cX6_judge 89 = .ok (.iconst 3, 1) := by decide +kernel
theorem dX6_judge_90 : decode cX6_judge 90 = .ok (.iload_n 2, 1) := by decide +kernel
theorem dX6_judge_91 : decode cX6_judge 91 = .ok (.imul, 1) := by decide +kernel
theorem dX6_judge_92 : decode cX6_judge 92 = .ok (.iconst 2, 1) := by decide +kernel
theorem dX6_judge_93 : decode cX6_judge 93 = .ok (.iadd, 1) := by decide +kernel
theorem dX6_judge_94 : decode cX6_judge 94 = .ok (.iaload, 1) := by decide +kernel
theorem dX6_judge_95 : decode cX6_judge 95 = .ok (.aload_n 0, 1) := by decide +kernel
theorem dX6_judge_96 : decode cX6_judge 96 = .ok (.iload_n 1, 1) := by decide +kernel
theorem dX6_judge_97 : decode cX6_judge 97 = .ok (.invokevirtual 241, 3) := by decide +kernel
theorem dX6_judge_100 : decode cX6_judge 100 = .ok (.if_icmp .ne 7, 3) := by decide +kernel
theorem dX6_judge_103 : decode cX6_judge 103 = .ok (.iconst 1, 1) := by decide +kernel
theorem dX6_judge_104 : decode cX6_judge 104 = .ok (.goto 4, 3) := by decide +kernel
theorem dX6_judge_107 : decode cX6_judge 107 = .ok (.iconst 0, 1) := by decide +kernel
theorem dX6_judge_108 : decode cX6_judge 108 = .ok (.istore_n 3, 1) := by decide +kernel
theorem dX6_judge_109 : decode cX6_judge 109 = .ok (.iinc 2 1, 3) := by decide +kernel
theorem dX6_judge_112 : decode cX6_judge 112 = .ok (.goto (-87), 3) := by decide +kernel
theorem dX6_judge_115 : decode cX6_judge 115 = .ok (.aload_n 0, 1) := by decide +kernel
theorem dX6_judge_116 : decode cX6_judge 116 = .ok (.getfield 16, 3) := by decide +kernel
theorem dX6_judge_119 : decode cX6_judge 119 = .ok (.aload_n 0, 1) := by decide +kernel
theorem dX6_judge_120 : decode cX6_judge 120 = .ok (.getfield 7, 3) := by decide +kernel
theorem dX6_judge_123 : decode cX6_judge 123 = .ok (.invokestatic 158, 3) := by decide +kernel
theorem dX6_judge_126 : decode cX6_judge 126 = .ok (.iload_n 3, 1) := by decide +kernel
theorem dX6_judge_127 : decode cX6_judge 127 = .ok (.ifCond .eq 7, 3) := by decide +kernel
theorem dX6_judge_130 : decode cX6_judge 130 = .ok (.iconst 0, 1) := by decide +kernel
theorem dX6_judge_131 : decode cX6_judge 131 = .ok (.goto 4, 3) := by decide +kernel
theorem dX6_judge_134 : decode cX6_judge 134 = .ok (.iload_n 2, 1) := by decide +kernel
theorem dX6_judge_135 : decode cX6_judge 135 = .ok (.ireturn, 1) := by decide +kernel
theorem dX6_isSheet_0 : decode cX6_isSheet 0 = .ok (.iload_n 0, 1) := by decide +kernel
theorem dX6_isSheet_1 : decode cX6_isSheet 1 = .ok (.i2l, 1) := by decide +kernel
theorem dX6_isSheet_2 : decode cX6_isSheet 2 = .ok (.lconst 0, 1) := by decide +kernel
theorem dX6_isSheet_3 : decode cX6_isSheet 3 = .ok (.ldc2_w 168, 3) := by decide +kernel
theorem dX6_isSheet_6 : decode cX6_isSheet 6 = .ok (.invokestatic 70, 3) := by decide +kernel
theorem dX6_isSheet_9 : decode cX6_isSheet 9 = .ok (.ireturn, 1) := by decide +kernel
theorem dX6_isShelf_0 : decode cX6_isShelf 0 = .ok (.iload_n 0, 1) := by decide +kernel
theorem dX6_isShelf_1 : decode cX6_isShelf 1 = .ok (.i2l, 1) := by decide +kernel
theorem dX6_isShelf_2 : decode cX6_isShelf 2 = .ok (.lconst 0, 1) := by decide +kernel
theorem dX6_isShelf_3 : decode cX6_isShelf 3 = .ok (.ldc2_w 168, 3) := by decide +kernel
theorem dX6_isShelf_6 : decode cX6_isShelf 6 = .ok (.invokestatic 70, 3) := by decide +kernel
theorem dX6_isShelf_9 : decode cX6_isShelf 9 = .ok (.ireturn, 1) := by decide +kernel
theorem dX6_sheet_0 : decode cX6_sheet 0 = .ok (.iload_n 1, 1) := by decide +kernel
theorem dX6_sheet_1 : decode cX6_sheet 1 = .ok (.invokestatic 257, 3) := by decide +kernel
theorem dX6_sheet_4 : decode cX6_sheet 4 = .ok (.ifCond .eq 27, 3) := by decide +kernel
theorem dX6_sheet_7 : decode cX6_sheet 7 = .ok (.iload_n 2, 1) := by decide +kernel
theorem dX6_sheet_8 : decode cX6_sheet 8 = .ok (.i2l, 1) := by decide +kernel
theorem dX6_sheet_9 : decode cX6_sheet 9 = .ok (.ldc2_w 263, 3) := by decide +kernel
theorem dX6_sheet_12 : decode cX6_sheet 12 = .ok (.ldc2_w 168, 3) := by decide +kernel
theorem dX6_sheet_15 : decode cX6_sheet 15 = .ok (.invokestatic 70, 3) := by decide +kernel
theorem dX6_sheet_18 : decode cX6_sheet 18 = .ok (.ifCond .eq 13, 3) := by decide +kernel
theorem dX6_sheet_21 : decode cX6_sheet 21 = .ok (.iload_n 2, 1) := by decide +kernel
theorem dX6_sheet_22 : decode cX6_sheet 22 = .ok (.ifCond .lt 11, 3) := by decide +kernel
theorem dX6_sheet_25 : decode cX6_sheet 25 = .ok (.iload_n 3, 1) := by decide +kernel
theorem dX6_sheet_26 : decode cX6_sheet 26 = .ok (.bipush 40, 2) := by decide +kernel
theorem dX6_sheet_28 : decode cX6_sheet 28 = .ok (.if_icmp .le 5, 3) := by decide +kernel
theorem dX6_sheet_31 : decode cX6_sheet 31 = .ok (.iconst (-1), 1) := by decide +kernel
theorem dX6_sheet_32 : decode cX6_sheet 32 = .ok (.ireturn, 1) := by decide +kernel
theorem dX6_sheet_33 : decode cX6_sheet 33 = .ok (.iload_n 2, 1) := by decide +kernel
theorem dX6_sheet_34 : decode cX6_sheet 34 = .ok (.ifCond .lt 10, 3) := by decide +kernel
theorem dX6_sheet_37 : decode cX6_sheet 37 = .ok (.iload_n 3, 1) := by decide +kernel
theorem dX6_sheet_38 : decode cX6_sheet 38 = .ok (.ifCond .ge 6, 3) := by decide +kernel
theorem dX6_sheet_41 : decode cX6_sheet 41 = .ok (.bipush (-14), 2) := by decide +kernel
theorem dX6_sheet_43 : decode cX6_sheet 43 = .ok (.ireturn, 1) := by decide +kernel
theorem dX6_sheet_44 : decode cX6_sheet 44 = .ok (.aload_n 0, 1) := by decide +kernel
theorem dX6_sheet_45 : decode cX6_sheet 45 = .ok (.getfield 40, 3) := by decide +kernel
theorem dX6_sheet_48 : decode cX6_sheet 48 = .ok (.iload_n 1, 1) := by decide +kernel
theorem dX6_sheet_49 : decode cX6_sheet 49 = .ok (.iload_n 2, 1) := by decide +kernel
theorem dX6_sheet_50 : decode cX6_sheet 50 = .ok (.iastore, 1) := by decide +kernel
theorem dX6_sheet_51 : decode cX6_sheet 51 = .ok (.aload_n 0, 1) := by decide +kernel
theorem dX6_sheet_52 : decode cX6_sheet 52 = .ok (.getfield 43, 3) := by decide +kernel
theorem dX6_sheet_55 : decode cX6_sheet 55 = .ok (.iload_n 1, 1) := by decide +kernel
theorem dX6_sheet_56 : decode cX6_sheet 56 = .ok (.iload_n 2, 1) := by decide +kernel
theorem dX6_sheet_57 : decode cX6_sheet 57 = .ok (.ifCond .ge 7, 3) := by decide +kernel
theorem dX6_sheet_60 : decode cX6_sheet 60 = .ok (.iconst 0, 1) := by decide +kernel
theorem dX6_sheet_61 : decode cX6_sheet 61 = .ok (.goto 4, 3) := by decide +kernel
theorem dX6_sheet_64 : decode cX6_sheet 64 = .ok (.iload_n 3, 1) := by decide +kernel
theorem dX6_sheet_65 : decode cX6_sheet 65 = .ok (.iastore, 1) := by decide +kernel
theorem dX6_sheet_66 : decode cX6_sheet 66 = .ok (.iconst 0, 1) := by decide +kernel
theorem dX6_sheet_67 : decode cX6_sheet 67 = .ok (.istore 4, 2) := by decide +kernel
theorem dX6_sheet_69 : decode cX6_sheet 69 = .ok (.iload 4, 2) := by decide +kernel
theorem dX6_sheet_71 : decode cX6_sheet 71 = .ok (.bipush 40, 2) := by decide +kernel
theorem dX6_sheet_73 : decode cX6_sheet 73 = .ok (.if_icmp .ge 22, 3) := by decide +kernel
theorem dX6_sheet_76 : decode cX6_sheet 76 = .ok (.aload_n 0, 1) := by decide +kernel
theorem dX6_sheet_77 : decode cX6_sheet 77 = .ok (.getfield 46, 3) := by decide +kernel
theorem dX6_sheet_80 : decode cX6_sheet 80 = .ok (.bipush 40, 2) := by decide +kernel
theorem dX6_sheet_82 : decode cX6_sheet 82 = .ok (.iload_n 1, 1) := by decide +kernel
theorem dX6_sheet_83 : decode cX6_sheet 83 = .ok (.imul, 1) := by decide +kernel
theorem dX6_sheet_84 : decode cX6_sheet 84 = .ok (.iload 4, 2) := by decide +kernel
theorem dX6_sheet_86 : decode cX6_sheet 86 = .ok (.iadd, 1) := by decide +kernel
theorem dX6_sheet_87 : decode cX6_sheet 87 = .ok (.iconst 0, 1) := by decide +kernel
theorem dX6_sheet_88 : decode cX6_sheet 88 = .ok (.iastore, 1) := by decide +kernel
theorem dX6_sheet_89 : decode cX6_sheet 89 = .ok (.iinc 4 1, 3) := by decide +kernel
theorem dX6_sheet_92 : decode cX6_sheet 92 = .ok (.goto (-23), 3) := by decide +kernel
theorem dX6_sheet_95 : decode cX6_sheet 95 = .ok (.iconst 1, 1) := by decide +kernel
theorem dX6_sheet_96 : decode cX6_sheet 96 = .ok (.ireturn, 1) := by decide +kernel
theorem dX6_put_0 : decode cX6_put 0 = .ok (.iload_n 1, 1) := by decide +kernel
theorem dX6_put_1 : decode cX6_put 1 = .ok (.invokestatic 257, 3) := by decide +kernel
theorem dX6_put_4 : decode cX6_put 4 = .ok (.ifCond .ne 5, 3) := by decide +kernel
theorem dX6_put_7 : decode cX6_put 7 = .ok (.iconst (-1), 1) := by decide +kernel
theorem dX6_put_8 : decode cX6_put 8 = .ok (.ireturn, 1) := by decide +kernel
theorem dX6_put_9 : decode cX6_put 9 = .ok (.aload_n 0, 1) := by decide +kernel
theorem dX6_put_10 : decode cX6_put 10 = .ok (.getfield 40, 3) := by decide +kernel
theorem dX6_put_13 : decode cX6_put 13 = .ok (.iload_n 1, 1) := by decide +kernel
theorem dX6_put_14 : decode cX6_put 14 = .ok (.iaload, 1) := by decide +kernel
theorem dX6_put_15 : decode cX6_put 15 = .ok (.ifCond .ge 6, 3) := by decide +kernel
theorem dX6_put_18 : decode cX6_put 18 = .ok (.bipush (-11), 2) := by decide +kernel
theorem dX6_put_20 : decode cX6_put 20 = .ok (.ireturn, 1) := by decide +kernel
theorem dX6_put_21 : decode cX6_put 21 = .ok (.iload_n 2, 1) := by decide +kernel
theorem dX6_put_22 : decode cX6_put 22 = .ok (.i2l, 1) := by decide +kernel
theorem dX6_put_23 : decode cX6_put 23 = .ok (.lconst 0, 1) := by decide +kernel
theorem dX6_put_24 : decode cX6_put 24 = .ok (.aload_n 0, 1) := by decide +kernel
theorem dX6_put_25 : decode cX6_put 25 = .ok (.getfield 43, 3) := by decide +kernel
theorem dX6_put_28 : decode cX6_put 28 = .ok (.iload_n 1, 1) := by decide +kernel
theorem dX6_put_29 : decode cX6_put 29 = .ok (.iaload, 1) := by decide +kernel
theorem dX6_put_30 : decode cX6_put 30 = .ok (.iconst 1, 1) := by decide +kernel
theorem dX6_put_31 : decode cX6_put 31 = .ok (.isub, 1) := by decide +kernel
theorem dX6_put_32 : decode cX6_put 32 = .ok (.i2l, 1) := by decide +kernel
theorem dX6_put_33 : decode cX6_put 33 = .ok (.invokestatic 70, 3) := by decide +kernel
theorem dX6_put_36 : decode cX6_put 36 = .ok (.ifCond .ne 6, 3) := by decide +kernel
theorem dX6_put_39 : decode cX6_put 39 = .ok (.bipush (-12), 2) := by decide +kernel
theorem dX6_put_41 : decode cX6_put 41 = .ok (.ireturn, 1) := by decide +kernel
theorem dX6_put_42 : decode cX6_put 42 = .ok (.aload_n 0, 1) := by decide +kernel
theorem dX6_put_43 : decode cX6_put 43 = .ok (.getfield 46, 3) := by decide +kernel
theorem dX6_put_46 : decode cX6_put 46 = .ok (.bipush 40, 2) := by decide +kernel
theorem dX6_put_48 : decode cX6_put 48 = .ok (.iload_n 1, 1) := by decide +kernel
theorem dX6_put_49 : decode cX6_put 49 = .ok (.imul, 1) := by decide +kernel
theorem dX6_put_50 : decode cX6_put 50 = .ok (.iload_n 2, 1) := by decide +kernel
theorem dX6_put_51 : decode cX6_put 51 = .ok (.iadd, 1) := by decide +kernel
theorem dX6_put_52 : decode cX6_put 52 = .ok (.aload_n 0, 1) := by decide +kernel
theorem dX6_put_53 : decode cX6_put 53 = .ok (.getfield 40, 3) := by decide +kernel
theorem dX6_put_56 : decode cX6_put 56 = .ok (.iload_n 1, 1) := by decide +kernel
theorem dX6_put_57 : decode cX6_put 57 = .ok (.iaload, 1) := by decide +kernel
theorem dX6_put_58 : decode cX6_put 58 = .ok (.ifCond .ne 8, 3) := by decide +kernel
theorem dX6_put_61 : decode cX6_put 61 = .ok (.iload_n 3, 1) := by decide +kernel
theorem dX6_put_62 : decode cX6_put 62 = .ok (.i2b, 1) := by decide +kernel
theorem dX6_put_63 : decode cX6_put 63 = .ok (.goto 19, 3) := by decide +kernel
theorem dX6_put_66 : decode cX6_put 66 = .ok (.aload_n 0, 1) := by decide +kernel
theorem dX6_put_67 : decode cX6_put 67 = .ok (.getfield 40, 3) := by decide +kernel
theorem dX6_put_70 : decode cX6_put 70 = .ok (.iload_n 1, 1) := by decide +kernel
theorem dX6_put_71 : decode cX6_put 71 = .ok (.iaload, 1) := by decide +kernel
theorem dX6_put_72 : decode cX6_put 72 = .ok (.iconst 1, 1) := by decide +kernel
theorem dX6_put_73 : decode cX6_put 73 = .ok (.if_icmp .ne 8, 3) := by decide +kernel
theorem dX6_put_76 : decode cX6_put 76 = .ok (.iload_n 3, 1) := by decide +kernel
theorem dX6_put_77 : decode cX6_put 77 = .ok (.i2s, 1) := by decide +kernel
theorem dX6_put_78 : decode cX6_put 78 = .ok (.goto 4, 3) := by decide +kernel
theorem dX6_put_81 : decode cX6_put 81 = .ok (.iload_n 3, 1) := by decide +kernel
theorem dX6_put_82 : decode cX6_put 82 = .ok (.iastore, 1) := by decide +kernel
theorem dX6_put_83 : decode cX6_put 83 = .ok (.iconst 1, 1) := by decide +kernel
theorem dX6_put_84 : decode cX6_put 84 = .ok (.ireturn, 1) := by decide +kernel
theorem dX6_lacks_0 : decode cX6_lacks 0 = .ok (.aload_n 0, 1) := by decide +kernel
theorem dX6_lacks_1 : decode cX6_lacks 1 = .ok (.getfield 40, 3) := by decide +kernel
theorem dX6_lacks_4 : decode cX6_lacks 4 = .ok (.iload_n 1, 1) := by decide +kernel
theorem dX6_lacks_5 : decode cX6_lacks 5 = .ok (.iaload, 1) := by decide +kernel
theorem dX6_lacks_6 : decode cX6_lacks 6 = .ok (.ifCond .ge 8, 3) := by decide +kernel
theorem dX6_lacks_9 : decode cX6_lacks 9 = .ok (.bipush (-11), 2) := by decide +kernel
theorem dX6_lacks_11 : decode cX6_lacks 11 = .ok (.goto 19, 3) := by decide +kernel
theorem dX6_lacks_14 : decode cX6_lacks 14 = .ok (.aload_n 0, 1) := by decide +kernel
theorem dX6_lacks_15 : decode cX6_lacks 15 = .ok (.getfield 40, 3) := by decide +kernel
theorem dX6_lacks_18 : decode cX6_lacks 18 = .ok (.iload_n 1, 1) := by decide +kernel
theorem dX6_lacks_19 : decode cX6_lacks 19 = .ok (.iaload, 1) := by decide +kernel
theorem dX6_lacks_20 : decode cX6_lacks 20 = .ok (.iload_n 2, 1) := by decide +kernel
theorem dX6_lacks_21 : decode cX6_lacks 21 = .ok (.if_icmp .eq 8, 3) := by decide +kernel
theorem dX6_lacks_24 : decode cX6_lacks 24 = .ok (.bipush (-13), 2) := by decide +kernel
theorem dX6_lacks_26 : decode cX6_lacks 26 = .ok (.goto 4, 3) := by decide +kernel
theorem dX6_lacks_29 : decode cX6_lacks 29 = .ok (.iconst 0, 1) := by decide +kernel
theorem dX6_lacks_30 : decode cX6_lacks 30 = .ok (.ireturn, 1) := by decide +kernel
theorem dX6_item_0 : decode cX6_item 0 = .ok (.iload_n 1, 1) := by decide +kernel
theorem dX6_item_1 : decode cX6_item 1 = .ok (.invokestatic 257, 3) := by decide +kernel
theorem dX6_item_4 : decode cX6_item 4 = .ok (.ifCond .eq 15, 3) := by decide +kernel
theorem dX6_item_7 : decode cX6_item 7 = .ok (.iload_n 2, 1) := by decide +kernel
theorem dX6_item_8 : decode cX6_item 8 = .ok (.i2l, 1) := by decide +kernel
theorem dX6_item_9 : decode cX6_item 9 = .ok (.lconst 0, 1) := by decide +kernel
theorem dX6_item_10 : decode cX6_item 10 = .ok (.ldc2_w 168, 3) := by decide +kernel
theorem dX6_item_13 : decode cX6_item 13 = .ok (.invokestatic 70, 3) := by decide +kernel
theorem dX6_item_16 : decode cX6_item 16 = .ok (.ifCond .ne 5, 3) := by decide +kernel
theorem dX6_item_19 : decode cX6_item 19 = .ok (.iconst (-1), 1) := by decide +kernel
theorem dX6_item_20 : decode cX6_item 20 = .ok (.ireturn, 1) := by decide +kernel
theorem dX6_item_21 : decode cX6_item 21 = .ok (.aload_n 0, 1) := by decide +kernel
theorem dX6_item_22 : decode cX6_item 22 = .ok (.iload_n 1, 1) := by decide +kernel
theorem dX6_item_23 : decode cX6_item 23 = .ok (.iload_n 2, 1) := by decide +kernel
theorem dX6_item_24 : decode cX6_item 24 = .ok (.invokevirtual 282, 3) := by decide +kernel
theorem dX6_item_27 : decode cX6_item 27 = .ok (.ifCond .eq 10, 3) := by decide +kernel
theorem dX6_item_30 : decode cX6_item 30 = .ok (.aload_n 0, 1) := by decide +kernel
theorem dX6_item_31 : decode cX6_item 31 = .ok (.iload_n 1, 1) := by decide +kernel
theorem dX6_item_32 : decode cX6_item 32 = .ok (.iload_n 2, 1) := by decide +kernel
theorem dX6_item_33 : decode cX6_item 33 = .ok (.invokevirtual 282, 3) := by decide +kernel
theorem dX6_item_36 : decode cX6_item 36 = .ok (.ireturn, 1) := by decide +kernel
theorem dX6_item_37 : decode cX6_item 37 = .ok (.iload_n 3, 1) := by decide +kernel
theorem dX6_item_38 : decode cX6_item 38 = .ok (.i2l, 1) := by decide +kernel
theorem dX6_item_39 : decode cX6_item 39 = .ok (.lconst 0, 1) := by decide +kernel
theorem dX6_item_40 : decode cX6_item 40 = .ok (.aload_n 0, 1) := by decide +kernel
theorem dX6_item_41 : decode cX6_item 41 = .ok (.getfield 43, 3) := by decide +kernel
theorem dX6_item_44 : decode cX6_item 44 = .ok (.iload_n 1, 1) := by decide +kernel
theorem dX6_item_45 : decode cX6_item 45 = .ok (.iaload, 1) := by decide +kernel
theorem dX6_item_46 : decode cX6_item 46 = .ok (.iconst 1, 1) := by decide +kernel
theorem dX6_item_47 : decode cX6_item 47 = .ok (.isub, 1) := by decide +kernel
theorem dX6_item_48 : decode cX6_item 48 = .ok (.i2l, 1) := by decide +kernel
theorem dX6_item_49 : decode cX6_item 49 = .ok (.invokestatic 70, 3) := by decide +kernel
theorem dX6_item_52 : decode cX6_item 52 = .ok (.ifCond .eq 17, 3) := by decide +kernel
theorem dX6_item_55 : decode cX6_item 55 = .ok (.aload_n 0, 1) := by decide +kernel
theorem dX6_item_56 : decode cX6_item 56 = .ok (.getfield 46, 3) := by decide +kernel
theorem dX6_item_59 : decode cX6_item 59 = .ok (.bipush 40, 2) := by decide +kernel
theorem dX6_item_61 : decode cX6_item 61 = .ok (.iload_n 1, 1) := by decide +kernel
theorem dX6_item_62 : decode cX6_item 62 = .ok (.imul, 1) := by decide +kernel
theorem dX6_item_63 : decode cX6_item 63 = .ok (.iload_n 3, 1) := by decide +kernel
theorem dX6_item_64 : decode cX6_item 64 = .ok (.iadd, 1) := by decide +kernel
theorem dX6_item_65 : decode cX6_item 65 = .ok (.iaload, 1) := by decide +kernel
theorem dX6_item_66 : decode cX6_item 66 = .ok (.goto 5, 3) := by decide +kernel
theorem dX6_item_69 : decode cX6_item 69 = .ok (.bipush (-12), 2) := by decide +kernel
theorem dX6_item_71 : decode cX6_item 71 = .ok (.ireturn, 1) := by decide +kernel
theorem dX6_minds_0 : decode cX6_minds 0 = .ok (.iload_n 1, 1) := by decide +kernel
theorem dX6_minds_1 : decode cX6_minds 1 = .ok (.invokestatic 257, 3) := by decide +kernel
theorem dX6_minds_4 : decode cX6_minds 4 = .ok (.ifCond .eq 37, 3) := by decide +kernel
theorem dX6_minds_7 : decode cX6_minds 7 = .ok (.aload_n 0, 1) := by decide +kernel
theorem dX6_minds_8 : decode cX6_minds 8 = .ok (.iload_n 3, 1) := by decide +kernel
theorem dX6_minds_9 : decode cX6_minds 9 = .ok (.invokevirtual 191, 3) := by decide +kernel
theorem dX6_minds_12 : decode cX6_minds 12 = .ok (.ifCond .eq 29, 3) := by decide +kernel
theorem dX6_minds_15 : decode cX6_minds 15 = .ok (.iload 4, 2) := by decide +kernel
theorem dX6_minds_17 : decode cX6_minds 17 = .ok (.i2l, 1) := by decide +kernel
theorem dX6_minds_18 : decode cX6_minds 18 = .ok (.lconst 0, 1) := by decide +kernel
theorem dX6_minds_19 : decode cX6_minds 19 = .ok (.ldc2_w 68, 3) := by decide +kernel
theorem dX6_minds_22 : decode cX6_minds 22 = .ok (.invokestatic 70, 3) := by decide +kernel
theorem dX6_minds_25 : decode cX6_minds 25 = .ok (.ifCond .eq 16, 3) := by decide +kernel
theorem dX6_minds_28 : decode cX6_minds 28 = .ok (.iload_n 3, 1) := by decide +kernel
theorem dX6_minds_29 : decode cX6_minds 29 = .ok (.iload 4, 2) := by decide +kernel
theorem dX6_minds_31 : decode cX6_minds 31 = .ok (.iadd, 1) := by decide +kernel
theorem dX6_minds_32 : decode cX6_minds 32 = .ok (.aload_n 0, 1) := by decide +kernel
theorem dX6_minds_33 : decode cX6_minds 33 = .ok (.getfield 7, 3) := by decide +kernel
theorem dX6_minds_36 : decode cX6_minds 36 = .ok (.iconst 0, 1) := by decide +kernel
theorem dX6_minds_37 : decode cX6_minds 37 = .ok (.iaload, 1) := by decide +kernel
theorem dX6_minds_38 : decode cX6_minds 38 = .ok (.if_icmp .le 5, 3) := by decide +kernel
theorem dX6_minds_41 : decode cX6_minds 41 = .ok (.iconst (-1), 1) := by decide +kernel
theorem dX6_minds_42 : decode cX6_minds 42 = .ok (.ireturn, 1) := by decide +kernel
theorem dX6_minds_43 : decode cX6_minds 43 = .ok (.aload_n 0, 1) := by decide +kernel
theorem dX6_minds_44 : decode cX6_minds 44 = .ok (.iload_n 1, 1) := by decide +kernel
theorem dX6_minds_45 : decode cX6_minds 45 = .ok (.iconst 0, 1) := by decide +kernel
theorem dX6_minds_46 : decode cX6_minds 46 = .ok (.invokevirtual 282, 3) := by decide +kernel
theorem dX6_minds_49 : decode cX6_minds 49 = .ok (.ifCond .eq 10, 3) := by decide +kernel
theorem dX6_minds_52 : decode cX6_minds 52 = .ok (.aload_n 0, 1) := by decide +kernel
theorem dX6_minds_53 : decode cX6_minds 53 = .ok (.iload_n 1, 1) := by decide +kernel
theorem dX6_minds_54 : decode cX6_minds 54 = .ok (.iconst 0, 1) := by decide +kernel
theorem dX6_minds_55 : decode cX6_minds 55 = .ok (.invokevirtual 282, 3) := by decide +kernel
theorem dX6_minds_58 : decode cX6_minds 58 = .ok (.ireturn, 1) := by decide +kernel
theorem dX6_minds_59 : decode cX6_minds 59 = .ok (.iload_n 2, 1) := by decide +kernel
theorem dX6_minds_60 : decode cX6_minds 60 = .ok (.i2l, 1) := by decide +kernel
theorem dX6_minds_61 : decode cX6_minds 61 = .ok (.lconst 0, 1) := by decide +kernel
theorem dX6_minds_62 : decode cX6_minds 62 = .ok (.aload_n 0, 1) := by decide +kernel
theorem dX6_minds_63 : decode cX6_minds 63 = .ok (.getfield 43, 3) := by decide +kernel
theorem dX6_minds_66 : decode cX6_minds 66 = .ok (.iload_n 1, 1) := by decide +kernel
theorem dX6_minds_67 : decode cX6_minds 67 = .ok (.iaload, 1) := by decide +kernel
theorem dX6_minds_68 : decode cX6_minds 68 = .ok (.i2l, 1) := by decide +kernel
theorem dX6_minds_69 : decode cX6_minds 69 = .ok (.invokestatic 70, 3) := by decide +kernel
theorem dX6_minds_72 : decode cX6_minds 72 = .ok (.ifCond .eq 20, 3) := by decide +kernel
theorem dX6_minds_75 : decode cX6_minds 75 = .ok (.iload_n 2, 1) := by decide +kernel
theorem dX6_minds_76 : decode cX6_minds 76 = .ok (.i2l, 1) := by decide +kernel
theorem dX6_minds_77 : decode cX6_minds 77 = .ok (.iload 4, 2) := by decide +kernel
theorem dX6_minds_79 : decode cX6_minds 79 = .ok (.i2l, 1) := by decide +kernel
theorem dX6_minds_80 : decode cX6_minds 80 = .ok (.ladd, 1) := by decide +kernel
theorem dX6_minds_81 : decode cX6_minds 81 = .ok (.aload_n 0, 1) := by decide +kernel
theorem dX6_minds_82 : decode cX6_minds 82 = .ok (.getfield 43, 3) := by decide +kernel
theorem dX6_minds_85 : decode cX6_minds 85 = .ok (.iload_n 1, 1) := by decide +kernel
theorem dX6_minds_86 : decode cX6_minds 86 = .ok (.iaload, 1) := by decide +kernel
theorem dX6_minds_87 : decode cX6_minds 87 = .ok (.i2l, 1) := by decide +kernel
theorem dX6_minds_88 : decode cX6_minds 88 = .ok (.lcmp, 1) := by decide +kernel
theorem dX6_minds_89 : decode cX6_minds 89 = .ok (.ifCond .le 6, 3) := by decide +kernel
theorem dX6_minds_92 : decode cX6_minds 92 = .ok (.bipush (-12), 2) := by decide +kernel
theorem dX6_minds_94 : decode cX6_minds 94 = .ok (.ireturn, 1) := by decide +kernel
theorem dX6_minds_95 : decode cX6_minds 95 = .ok (.iconst 0, 1) := by decide +kernel
theorem dX6_minds_96 : decode cX6_minds 96 = .ok (.istore 5, 2) := by decide +kernel
theorem dX6_minds_98 : decode cX6_minds 98 = .ok (.iload 5, 2) := by decide +kernel
theorem dX6_minds_100 : decode cX6_minds 100 = .ok (.iload 4, 2) := by decide +kernel
theorem dX6_minds_102 : decode cX6_minds 102 = .ok (.if_icmp .ge 42, 3) := by decide +kernel
theorem dX6_minds_105 : decode cX6_minds 105 = .ok (.aload_n 0, 1) := by decide +kernel
theorem dX6_minds_106 : decode cX6_minds 106 = .ok (.getfield 7, 3) := by decide +kernel
theorem dX6_minds_109 : decode cX6_minds 109 = .ok (.bipush 24, 2) := by decide +kernel
theorem dX6_minds_111 : decode cX6_minds 111 = .ok (.iconst 4, 1) := by decide +kernel
theorem dX6_minds_112 : decode cX6_minds 112 = .ok (.iload_n 3, 1) := by decide +kernel
theorem dX6_minds_113 : decode cX6_minds 113 = .ok (.iload 5, 2) := by decide +kernel
theorem dX6_minds_115 : decode cX6_minds 115 = .ok (.iadd, 1) := by decide +kernel
theorem dX6_minds_116 : decode cX6_minds 116 = .ok (.imul, 1) := by decide +kernel
theorem dX6_minds_117 : decode cX6_minds 117 = .ok (.iadd, 1) := by decide +kernel
theorem dX6_minds_118 : decode cX6_minds 118 = .ok (.iconst 1, 1) := by decide +kernel
theorem dX6_minds_119 : decode cX6_minds 119 = .ok (.iadd, 1) := by decide +kernel
theorem dX6_minds_120 : decode cX6_minds 120 = .ok (.aload_n 0, 1) := by decide +kernel
theorem dX6_minds_121 : decode cX6_minds 121 = .ok (.getfield 46, 3) := by decide +kernel
theorem dX6_minds_124 : decode cX6_minds 124 = .ok (.bipush 40, 2) := by decide +kernel
theorem dX6_minds_126 : decode cX6_minds 126 = .ok (.iload_n 1, 1) := by decide +kernel
theorem dX6_minds_127 : decode cX6_minds 127 = .ok (.imul, 1) := by decide +kernel
theorem dX6_minds_128 : decode cX6_minds 128 = .ok (.iload_n 2, 1) := by decide +kernel
theorem dX6_minds_129 : decode cX6_minds 129 = .ok (.iadd, 1) := by decide +kernel
theorem dX6_minds_130 : decode cX6_minds 130 = .ok (.iload 5, 2) := by decide +kernel
theorem dX6_minds_132 : decode cX6_minds 132 = .ok (.iadd, 1) := by decide +kernel
theorem dX6_minds_133 : decode cX6_minds 133 = .ok (.iaload, 1) := by decide +kernel
theorem dX6_minds_134 : decode cX6_minds 134 = .ok (.invokestatic 285, 3) := by decide +kernel
theorem dX6_minds_137 : decode cX6_minds 137 = .ok (.iastore, 1) := by decide +kernel
theorem dX6_minds_138 : decode cX6_minds 138 = .ok (.iinc 5 1, 3) := by decide +kernel
theorem dX6_minds_141 : decode cX6_minds 141 = .ok (.goto (-43), 3) := by decide +kernel
theorem dX6_minds_144 : decode cX6_minds 144 = .ok (.iload 4, 2) := by decide +kernel
theorem dX6_minds_146 : decode cX6_minds 146 = .ok (.ireturn, 1) := by decide +kernel
theorem dX6_shelf_0 : decode cX6_shelf 0 = .ok (.iload_n 1, 1) := by decide +kernel
theorem dX6_shelf_1 : decode cX6_shelf 1 = .ok (.invokestatic 288, 3) := by decide +kernel
theorem dX6_shelf_4 : decode cX6_shelf 4 = .ok (.ifCond .eq 39, 3) := by decide +kernel
theorem dX6_shelf_7 : decode cX6_shelf 7 = .ok (.iload_n 2, 1) := by decide +kernel
theorem dX6_shelf_8 : decode cX6_shelf 8 = .ok (.i2l, 1) := by decide +kernel
theorem dX6_shelf_9 : decode cX6_shelf 9 = .ok (.lconst 0, 1) := by decide +kernel
theorem dX6_shelf_10 : decode cX6_shelf 10 = .ok (.ldc2_w 277, 3) := by decide +kernel
theorem dX6_shelf_13 : decode cX6_shelf 13 = .ok (.invokestatic 70, 3) := by decide +kernel
theorem dX6_shelf_16 : decode cX6_shelf 16 = .ok (.ifCond .eq 27, 3) := by decide +kernel
theorem dX6_shelf_19 : decode cX6_shelf 19 = .ok (.iload_n 2, 1) := by decide +kernel
theorem dX6_shelf_20 : decode cX6_shelf 20 = .ok (.ifCond .ne 11, 3) := by decide +kernel
theorem dX6_shelf_23 : decode cX6_shelf 23 = .ok (.aload_n 0, 1) := by decide +kernel
theorem dX6_shelf_24 : decode cX6_shelf 24 = .ok (.iload_n 3, 1) := by decide +kernel
theorem dX6_shelf_25 : decode cX6_shelf 25 = .ok (.invokevirtual 191, 3) := by decide +kernel
theorem dX6_shelf_28 : decode cX6_shelf 28 = .ok (.ifCond .eq 15, 3) := by decide +kernel
theorem dX6_shelf_31 : decode cX6_shelf 31 = .ok (.iload_n 2, 1) := by decide +kernel
theorem dX6_shelf_32 : decode cX6_shelf 32 = .ok (.iconst 1, 1) := by decide +kernel
theorem dX6_shelf_33 : decode cX6_shelf 33 = .ok (.if_icmp .ne 12, 3) := by decide +kernel
theorem dX6_shelf_36 : decode cX6_shelf 36 = .ok (.iload_n 3, 1) := by decide +kernel
theorem dX6_shelf_37 : decode cX6_shelf 37 = .ok (.invokestatic 257, 3) := by decide +kernel
theorem dX6_shelf_40 : decode cX6_shelf 40 = .ok (.ifCond .ne 5, 3) := by decide +kernel
theorem dX6_shelf_43 : decode cX6_shelf 43 = .ok (.iconst (-1), 1) := by decide +kernel
theorem dX6_shelf_44 : decode cX6_shelf 44 = .ok (.ireturn, 1) := by decide +kernel
theorem dX6_shelf_45 : decode cX6_shelf 45 = .ok (.iload_n 2, 1) := by decide +kernel
theorem dX6_shelf_46 : decode cX6_shelf 46 = .ok (.iconst 1, 1) := by decide +kernel
theorem dX6_shelf_47 : decode cX6_shelf 47 = .ok (.if_icmp .ne 16, 3) := by decide +kernel
theorem dX6_shelf_50 : decode cX6_shelf 50 = .ok (.aload_n 0, 1) := by decide +kernel
theorem dX6_shelf_51 : decode cX6_shelf 51 = .ok (.getfield 40, 3) := by decide +kernel
theorem dX6_shelf_54 : decode cX6_shelf 54 = .ok (.iload_n 3, 1) := by decide +kernel
theorem dX6_shelf_55 : decode cX6_shelf 55 = .ok (.iaload, 1) := by decide +kernel
theorem dX6_shelf_56 : decode cX6_shelf 56 = .ok (.ifCond .lt 7, 3) := by decide +kernel
theorem dX6_shelf_59 : decode cX6_shelf 59 = .ok (.iconst 1, 1) := by decide +kernel
theorem dX6_shelf_60 : decode cX6_shelf 60 = .ok (.goto 4, 3) := by decide +kernel
theorem dX6_shelf_63 : decode cX6_shelf 63 = .ok (.iconst 0, 1) := by decide +kernel
theorem dX6_shelf_64 : decode cX6_shelf 64 = .ok (.istore 4, 2) := by decide +kernel
theorem dX6_shelf_66 : decode cX6_shelf 66 = .ok (.aload_n 0, 1) := by decide +kernel
theorem dX6_shelf_67 : decode cX6_shelf 67 = .ok (.getfield 49, 3) := by decide +kernel
theorem dX6_shelf_70 : decode cX6_shelf 70 = .ok (.iload_n 1, 1) := by decide +kernel
theorem dX6_shelf_71 : decode cX6_shelf 71 = .ok (.iload_n 2, 1) := by decide +kernel
theorem dX6_shelf_72 : decode cX6_shelf 72 = .ok (.ifCond .ne 7, 3) := by decide +kernel
theorem dX6_shelf_75 : decode cX6_shelf 75 = .ok (.iconst 1, 1) := by decide +kernel
theorem dX6_shelf_76 : decode cX6_shelf 76 = .ok (.goto 13, 3) := by decide +kernel
theorem dX6_shelf_79 : decode cX6_shelf 79 = .ok (.iload 4, 2) := by decide +kernel
theorem dX6_shelf_81 : decode cX6_shelf 81 = .ok (.ifCond .eq 7, 3) := by decide +kernel
theorem dX6_shelf_84 : decode cX6_shelf 84 = .ok (.iconst 2, 1) := by decide +kernel
theorem dX6_shelf_85 : decode cX6_shelf 85 = .ok (.goto 4, 3) := by decide +kernel
theorem dX6_shelf_88 : decode cX6_shelf 88 = .ok (.iconst 0, 1) := by decide +kernel
theorem dX6_shelf_89 : decode cX6_shelf 89 = .ok (.iastore, 1) := by decide +kernel
theorem dX6_shelf_90 : decode cX6_shelf 90 = .ok (.aload_n 0, 1) := by decide +kernel
theorem dX6_shelf_91 : decode cX6_shelf 91 = .ok (.getfield 52, 3) := by decide +kernel
theorem dX6_shelf_94 : decode cX6_shelf 94 = .ok (.iload_n 1, 1) := by decide +kernel
theorem dX6_shelf_95 : decode cX6_shelf 95 = .ok (.iload_n 2, 1) := by decide +kernel
theorem dX6_shelf_96 : decode cX6_shelf 96 = .ok (.ifCond .ne 7, 3) := by decide +kernel
theorem dX6_shelf_99 : decode cX6_shelf 99 = .ok (.iload_n 3, 1) := by decide +kernel
theorem dX6_shelf_100 : decode cX6_shelf 100 = .ok (.goto 18, 3) := by decide +kernel
theorem dX6_shelf_103 : decode cX6_shelf 103 = .ok (.iload 4, 2) := by decide +kernel
theorem dX6_shelf_105 : decode cX6_shelf 105 = .ok (.ifCond .eq 12, 3) := by decide +kernel
theorem dX6_shelf_108 : decode cX6_shelf 108 = .ok (.aload_n 0, 1) := by decide +kernel
theorem dX6_shelf_109 : decode cX6_shelf 109 = .ok (.getfield 40, 3) := by decide +kernel
theorem dX6_shelf_112 : decode cX6_shelf 112 = .ok (.iload_n 3, 1) := by decide +kernel
theorem dX6_shelf_113 : decode cX6_shelf 113 = .ok (.iaload, 1) := by decide +kernel
theorem dX6_shelf_114 : decode cX6_shelf 114 = .ok (.goto 4, 3) := by decide +kernel
theorem dX6_shelf_117 : decode cX6_shelf 117 = .ok (.iconst 0, 1) := by decide +kernel
theorem dX6_shelf_118 : decode cX6_shelf 118 = .ok (.iastore, 1) := by decide +kernel
theorem dX6_shelf_119 : decode cX6_shelf 119 = .ok (.aload_n 0, 1) := by decide +kernel
theorem dX6_shelf_120 : decode cX6_shelf 120 = .ok (.getfield 55, 3) := by decide +kernel
theorem dX6_shelf_123 : decode cX6_shelf 123 = .ok (.iload_n 1, 1) := by decide +kernel
theorem dX6_shelf_124 : decode cX6_shelf 124 = .ok (.iload 4, 2) := by decide +kernel
theorem dX6_shelf_126 : decode cX6_shelf 126 = .ok (.ifCond .eq 12, 3) := by decide +kernel
theorem dX6_shelf_129 : decode cX6_shelf 129 = .ok (.aload_n 0, 1) := by decide +kernel
theorem dX6_shelf_130 : decode cX6_shelf 130 = .ok (.getfield 43, 3) := by decide +kernel
theorem dX6_shelf_133 : decode cX6_shelf 133 = .ok (.iload_n 3, 1) := by decide +kernel
theorem dX6_shelf_134 : decode cX6_shelf 134 = .ok (.iaload, 1) := by decide +kernel
theorem dX6_shelf_135 : decode cX6_shelf 135 = .ok (.goto 4, 3) := by decide +kernel
theorem dX6_shelf_138 : decode cX6_shelf 138 = .ok (.iconst 0, 1) := by decide +kernel
theorem dX6_shelf_139 : decode cX6_shelf 139 = .ok (.iastore, 1) := by decide +kernel
theorem dX6_shelf_140 : decode cX6_shelf 140 = .ok (.iconst 1, 1) := by decide +kernel
theorem dX6_shelf_141 : decode cX6_shelf 141 = .ok (.ireturn, 1) := by decide +kernel
theorem dX6_heldOn_0 : decode cX6_heldOn 0 = .ok (.aload_n 0, 1) := by decide +kernel
theorem dX6_heldOn_1 : decode cX6_heldOn 1 = .ok (.getfield 49, 3) := by decide +kernel
theorem dX6_heldOn_4 : decode cX6_heldOn 4 = .ok (.iload_n 1, 1) := by decide +kernel
theorem dX6_heldOn_5 : decode cX6_heldOn 5 = .ok (.iaload, 1) := by decide +kernel
theorem dX6_heldOn_6 : decode cX6_heldOn 6 = .ok (.iconst 1, 1) := by decide +kernel
theorem dX6_heldOn_7 : decode cX6_heldOn 7 = .ok (.if_icmp .ne 20, 3) := by decide +kernel
theorem dX6_heldOn_10 : decode cX6_heldOn 10 = .ok (.aload_n 0, 1) := by decide +kernel
theorem dX6_heldOn_11 : decode cX6_heldOn 11 = .ok (.aload_n 0, 1) := by decide +kernel
theorem dX6_heldOn_12 : decode cX6_heldOn 12 = .ok (.getfield 52, 3) := by decide +kernel
theorem dX6_heldOn_15 : decode cX6_heldOn 15 = .ok (.iload_n 1, 1) := by decide +kernel
theorem dX6_heldOn_16 : decode cX6_heldOn 16 = .ok (.iaload, 1) := by decide +kernel
theorem dX6_heldOn_17 : decode cX6_heldOn 17 = .ok (.invokevirtual 191, 3) := by decide +kernel
theorem dX6_heldOn_20 : decode cX6_heldOn 20 = .ok (.ifCond .ne 7, 3) := by decide +kernel
theorem dX6_heldOn_23 : decode cX6_heldOn 23 = .ok (.iconst 0, 1) := by decide +kernel
theorem dX6_heldOn_24 : decode cX6_heldOn 24 = .ok (.goto 9, 3) := by decide +kernel
theorem dX6_heldOn_27 : decode cX6_heldOn 27 = .ok (.aload_n 0, 1) := by decide +kernel
theorem dX6_heldOn_28 : decode cX6_heldOn 28 = .ok (.getfield 49, 3) := by decide +kernel
theorem dX6_heldOn_31 : decode cX6_heldOn 31 = .ok (.iload_n 1, 1) := by decide +kernel
theorem dX6_heldOn_32 : decode cX6_heldOn 32 = .ok (.iaload, 1) := by decide +kernel
theorem dX6_heldOn_33 : decode cX6_heldOn 33 = .ok (.ireturn, 1) := by decide +kernel
theorem dX6_taken_0 : decode cX6_taken 0 = .ok (.iload_n 1, 1) := by decide +kernel
theorem dX6_taken_1 : decode cX6_taken 1 = .ok (.invokestatic 288, 3) := by decide +kernel
theorem dX6_taken_4 : decode cX6_taken 4 = .ok (.ifCond .eq 29, 3) := by decide +kernel
theorem dX6_taken_7 : decode cX6_taken 7 = .ok (.iload_n 2, 1) := by decide +kernel
theorem dX6_taken_8 : decode cX6_taken 8 = .ok (.i2l, 1) := by decide +kernel
theorem dX6_taken_9 : decode cX6_taken 9 = .ok (.lconst 0, 1) := by decide +kernel
theorem dX6_taken_10 : decode cX6_taken 10 = .ok (.ldc2_w 291, 3) := by decide +kernel
theorem dX6_taken_13 : decode cX6_taken 13 = .ok (.invokestatic 70, 3) := by decide +kernel
theorem dX6_taken_16 : decode cX6_taken 16 = .ok (.ifCond .eq 17, 3) := by decide +kernel
theorem dX6_taken_19 : decode cX6_taken 19 = .ok (.iload_n 2, 1) := by decide +kernel
theorem dX6_taken_20 : decode cX6_taken 20 = .ok (.i2l, 1) := by decide +kernel
theorem dX6_taken_21 : decode cX6_taken 21 = .ok (.ldc2_w 293, 3) := by decide +kernel
theorem dX6_taken_24 : decode cX6_taken 24 = .ok (.ldc2_w 172, 3) := by decide +kernel
theorem dX6_taken_27 : decode cX6_taken 27 = .ok (.invokestatic 70, 3) := by decide +kernel
theorem dX6_taken_30 : decode cX6_taken 30 = .ok (.ifCond .eq 5, 3) := by decide +kernel
theorem dX6_taken_33 : decode cX6_taken 33 = .ok (.iconst (-1), 1) := by decide +kernel
theorem dX6_taken_34 : decode cX6_taken 34 = .ok (.ireturn, 1) := by decide +kernel
theorem dX6_taken_35 : decode cX6_taken 35 = .ok (.aload_n 0, 1) := by decide +kernel
theorem dX6_taken_36 : decode cX6_taken 36 = .ok (.iload_n 1, 1) := by decide +kernel
theorem dX6_taken_37 : decode cX6_taken 37 = .ok (.invokevirtual 295, 3) := by decide +kernel
theorem dX6_taken_40 : decode cX6_taken 40 = .ok (.istore_n 3, 1) := by decide +kernel
theorem dX6_taken_41 : decode cX6_taken 41 = .ok (.iload_n 3, 1) := by decide +kernel
theorem dX6_taken_42 : decode cX6_taken 42 = .ok (.ifCond .ne 6, 3) := by decide +kernel
theorem dX6_taken_45 : decode cX6_taken 45 = .ok (.bipush (-11), 2) := by decide +kernel
theorem dX6_taken_47 : decode cX6_taken 47 = .ok (.ireturn, 1) := by decide +kernel
theorem dX6_taken_48 : decode cX6_taken 48 = .ok (.iload_n 2, 1) := by decide +kernel
theorem dX6_taken_49 : decode cX6_taken 49 = .ok (.bipush 10, 2) := by decide +kernel
theorem dX6_taken_51 : decode cX6_taken 51 = .ok (.if_icmp .ge 38, 3) := by decide +kernel
theorem dX6_taken_54 : decode cX6_taken 54 = .ok (.iload_n 3, 1) := by decide +kernel
theorem dX6_taken_55 : decode cX6_taken 55 = .ok (.iconst 1, 1) := by decide +kernel
theorem dX6_taken_56 : decode cX6_taken 56 = .ok (.if_icmp .ne 30, 3) := by decide +kernel
theorem dX6_taken_59 : decode cX6_taken 59 = .ok (.aload_n 0, 1) := by decide +kernel
theorem dX6_taken_60 : decode cX6_taken 60 = .ok (.aload_n 0, 1) := by decide +kernel
theorem dX6_taken_61 : decode cX6_taken 61 = .ok (.getfield 52, 3) := by decide +kernel
theorem dX6_taken_64 : decode cX6_taken 64 = .ok (.iload_n 1, 1) := by decide +kernel
theorem dX6_taken_65 : decode cX6_taken 65 = .ok (.iaload, 1) := by decide +kernel
theorem dX6_taken_66 : decode cX6_taken 66 = .ok (.iconst 0, 1) := by decide +kernel
theorem dX6_taken_67 : decode cX6_taken 67 = .ok (.invokevirtual 182, 3) := by decide +kernel
theorem dX6_taken_70 : decode cX6_taken 70 = .ok (.iload_n 2, 1) := by decide +kernel
theorem dX6_taken_71 : decode cX6_taken 71 = .ok (.invokestatic 298, 3) := by decide +kernel
theorem dX6_taken_74 : decode cX6_taken 74 = .ok (.ifCond .eq 12, 3) := by decide +kernel
theorem dX6_taken_77 : decode cX6_taken 77 = .ok (.aload_n 0, 1) := by decide +kernel
theorem dX6_taken_78 : decode cX6_taken 78 = .ok (.getfield 52, 3) := by decide +kernel
theorem dX6_taken_81 : decode cX6_taken 81 = .ok (.iload_n 1, 1) := by decide +kernel
theorem dX6_taken_82 : decode cX6_taken 82 = .ok (.iaload, 1) := by decide +kernel
theorem dX6_taken_83 : decode cX6_taken 83 = .ok (.goto 5, 3) := by decide +kernel
theorem dX6_taken_86 : decode cX6_taken 86 = .ok (.bipush (-13), 2) := by decide +kernel
theorem dX6_taken_88 : decode cX6_taken 88 = .ok (.ireturn, 1) := by decide +kernel
theorem dX6_taken_89 : decode cX6_taken 89 = .ok (.iload_n 3, 1) := by decide +kernel
theorem dX6_taken_90 : decode cX6_taken 90 = .ok (.iconst 2, 1) := by decide +kernel
theorem dX6_taken_91 : decode cX6_taken 91 = .ok (.if_icmp .ne 25, 3) := by decide +kernel
theorem dX6_taken_94 : decode cX6_taken 94 = .ok (.aload_n 0, 1) := by decide +kernel
theorem dX6_taken_95 : decode cX6_taken 95 = .ok (.getfield 52, 3) := by decide +kernel
theorem dX6_taken_98 : decode cX6_taken 98 = .ok (.iload_n 1, 1) := by decide +kernel
theorem dX6_taken_99 : decode cX6_taken 99 = .ok (.iaload, 1) := by decide +kernel
theorem dX6_taken_100 : decode cX6_taken 100 = .ok (.iload_n 2, 1) := by decide +kernel
theorem dX6_taken_101 : decode cX6_taken 101 = .ok (.bipush 10, 2) := by decide +kernel
theorem dX6_taken_103 : decode cX6_taken 103 = .ok (.isub, 1) := by decide +kernel
theorem dX6_taken_104 : decode cX6_taken 104 = .ok (.if_icmp .ne 12, 3) := by decide +kernel
theorem dX6_taken_107 : decode cX6_taken 107 = .ok (.aload_n 0, 1) := by decide +kernel
theorem dX6_taken_108 : decode cX6_taken 108 = .ok (.getfield 55, 3) := by decide +kernel
theorem dX6_taken_111 : decode cX6_taken 111 = .ok (.iload_n 1, 1) := by decide +kernel
theorem dX6_taken_112 : decode cX6_taken 112 = .ok (.iaload, 1) := by decide +kernel
theorem dX6_taken_113 : decode cX6_taken 113 = .ok (.goto 5, 3) := by decide +kernel
theorem dX6_taken_116 : decode cX6_taken 116 = .ok (.bipush (-13), 2) := by decide +kernel
theorem dX6_taken_118 : decode cX6_taken 118 = .ok (.ireturn, 1) := by decide +kernel
theorem dX6_runs_0 : decode cX6_runs 0 = .ok (.aload_n 0, 1) := by decide +kernel
theorem dX6_runs_1 : decode cX6_runs 1 = .ok (.getfield 301, 3) := by decide +kernel
theorem dX6_runs_4 : decode cX6_runs 4 = .ok (.bipush 30, 2) := by decide +kernel
theorem dX6_runs_6 : decode cX6_runs 6 = .ok (.if_icmp .ge 23, 3) := by decide +kernel
theorem dX6_runs_9 : decode cX6_runs 9 = .ok (.aload_n 0, 1) := by decide +kernel
theorem dX6_runs_10 : decode cX6_runs 10 = .ok (.getfield 58, 3) := by decide +kernel
theorem dX6_runs_13 : decode cX6_runs 13 = .ok (.aload_n 0, 1) := by decide +kernel
theorem dX6_runs_14 : decode cX6_runs 14 = .ok (.getfield 301, 3) := by decide +kernel
theorem dX6_runs_17 : decode cX6_runs 17 = .ok (.iload_n 1, 1) := by decide +kernel
theorem dX6_runs_18 : decode cX6_runs 18 = .ok (.iastore, 1) := by decide +kernel
theorem dX6_runs_19 : decode cX6_runs 19 = .ok (.aload_n 0, 1) := by decide +kernel
theorem dX6_runs_20 : decode cX6_runs 20 = .ok (.dup, 1) := by decide +kernel
theorem dX6_runs_21 : decode cX6_runs 21 = .ok (.getfield 301, 3) := by decide +kernel
theorem dX6_runs_24 : decode cX6_runs 24 = .ok (.iconst 1, 1) := by decide +kernel
theorem dX6_runs_25 : decode cX6_runs 25 = .ok (.iadd, 1) := by decide +kernel
theorem dX6_runs_26 : decode cX6_runs 26 = .ok (.putfield 301, 3) := by decide +kernel
theorem dX6_runs_29 : decode cX6_runs 29 = .ok (.return_, 1) := by decide +kernel
theorem dX6_driftsPlain_0 : decode cX6_driftsPlain 0 = .ok (.aload_n 0, 1) := by decide +kernel
theorem dX6_driftsPlain_1 : decode cX6_driftsPlain 1 = .ok (.bipush 10, 2) := by decide +kernel
theorem dX6_driftsPlain_3 : decode cX6_driftsPlain 3 = .ok (.invokevirtual 304, 3) := by decide +kernel
theorem dX6_driftsPlain_6 : decode cX6_driftsPlain 6 = .ok (.iload_n 1, 1) := by decide +kernel
theorem dX6_driftsPlain_7 : decode cX6_driftsPlain 7 = .ok (.bipush 9, 2) := by decide +kernel
theorem dX6_driftsPlain_9 : decode cX6_driftsPlain 9 = .ok (.imul, 1) := by decide +kernel
theorem dX6_driftsPlain_10 : decode cX6_driftsPlain 10 = .ok (.aload_n 0, 1) := by decide +kernel
theorem dX6_driftsPlain_11 : decode cX6_driftsPlain 11 = .ok (.getfield 307, 3) := by decide +kernel
theorem dX6_driftsPlain_14 : decode cX6_driftsPlain 14 = .ok (.iadd, 1) := by decide +kernel
theorem dX6_driftsPlain_15 : decode cX6_driftsPlain 15 = .ok (.ireturn, 1) := by decide +kernel
theorem dX6_driftsOfFog_0 : decode cX6_driftsOfFog 0 = .ok (.aload_n 0, 1) := by decide +kernel
theorem dX6_driftsOfFog_1 : decode cX6_driftsOfFog 1 = .ok (.bipush 30, 2) := by decide +kernel
theorem dX6_driftsOfFog_3 : decode cX6_driftsOfFog 3 = .ok (.invokevirtual 304, 3) := by decide +kernel
theorem dX6_driftsOfFog_6 : decode cX6_driftsOfFog 6 = .ok (.iconst 0, 1) := by decide +kernel
theorem dX6_driftsOfFog_7 : decode cX6_driftsOfFog 7 = .ok (.aload_n 0, 1) := by decide +kernel
theorem dX6_driftsOfFog_8 : decode cX6_driftsOfFog 8 = .ok (.iload_n 1, 1) := by decide +kernel
theorem dX6_driftsOfFog_9 : decode cX6_driftsOfFog 9 = .ok (.invokevirtual 310, 3) := by decide +kernel
theorem dX6_driftsOfFog_12 : decode cX6_driftsOfFog 12 = .ok (.isub, 1) := by decide +kernel
theorem dX6_driftsOfFog_13 : decode cX6_driftsOfFog 13 = .ok (.ireturn, 1) := by decide +kernel
theorem dX6_drifts_0 : decode cX6_drifts 0 = .ok (.aload_n 0, 1) := by decide +kernel
theorem dX6_drifts_1 : decode cX6_drifts 1 = .ok (.getfield 313, 3) := by decide +kernel
theorem dX6_drifts_4 : decode cX6_drifts 4 = .ok (.tableswitch 66 2 4 #[28, 49, 34], 28) := by decide +kernel
theorem dX6_drifts_32 : decode cX6_drifts 32 = .ok (.aload_n 0, 1) := by decide +kernel
theorem dX6_drifts_33 : decode cX6_drifts 33 = .ok (.iload_n 1, 1) := by decide +kernel
theorem dX6_drifts_34 : decode cX6_drifts 34 = .ok (.invokevirtual 316, 3) := by decide +kernel
theorem dX6_drifts_37 : decode cX6_drifts 37 = .ok (.ireturn, 1) := by decide +kernel
theorem dX6_drifts_38 : decode cX6_drifts 38 = .ok (.aload_n 0, 1) := by decide +kernel
theorem dX6_drifts_39 : decode cX6_drifts 39 = .ok (.bipush 40, 2) := by decide +kernel
theorem dX6_drifts_41 : decode cX6_drifts 41 = .ok (.invokevirtual 304, 3) := by decide +kernel
theorem dX6_drifts_44 : decode cX6_drifts 44 = .ok (.aload_n 0, 1) := by decide +kernel
theorem dX6_drifts_45 : decode cX6_drifts 45 = .ok (.iload_n 1, 1) := by decide +kernel
theorem dX6_drifts_46 : decode cX6_drifts 46 = .ok (.invokevirtual 316, 3) := by decide +kernel
theorem dX6_drifts_49 : decode cX6_drifts 49 = .ok (.bipush 6, 2) := by decide +kernel
theorem dX6_drifts_51 : decode cX6_drifts 51 = .ok (.iadd, 1) := by decide +kernel
theorem dX6_drifts_52 : decode cX6_drifts 52 = .ok (.ireturn, 1) := by decide +kernel
theorem dX6_drifts_53 : decode cX6_drifts 53 = .ok (.aload_n 0, 1) := by decide +kernel
theorem dX6_drifts_54 : decode cX6_drifts 54 = .ok (.bipush 51, 2) := by decide +kernel
theorem dX6_drifts_56 : decode cX6_drifts 56 = .ok (.invokevirtual 304, 3) := by decide +kernel
theorem dX6_drifts_59 : decode cX6_drifts 59 = .ok (.aload_n 0, 1) := by decide +kernel
theorem dX6_drifts_60 : decode cX6_drifts 60 = .ok (.iload_n 1, 1) := by decide +kernel
theorem dX6_drifts_61 : decode cX6_drifts 61 = .ok (.invokevirtual 310, 3) := by decide +kernel
theorem dX6_drifts_64 : decode cX6_drifts 64 = .ok (.aload_n 0, 1) := by decide +kernel
theorem dX6_drifts_65 : decode cX6_drifts 65 = .ok (.getfield 307, 3) := by decide +kernel
theorem dX6_drifts_68 : decode cX6_drifts 68 = .ok (.iadd, 1) := by decide +kernel
theorem dX6_drifts_69 : decode cX6_drifts 69 = .ok (.ireturn, 1) := by decide +kernel
theorem dX6_drifts_70 : decode cX6_drifts 70 = .ok (.aload_n 0, 1) := by decide +kernel
theorem dX6_drifts_71 : decode cX6_drifts 71 = .ok (.iload_n 1, 1) := by decide +kernel
theorem dX6_drifts_72 : decode cX6_drifts 72 = .ok (.invokevirtual 310, 3) := by decide +kernel
theorem dX6_drifts_75 : decode cX6_drifts 75 = .ok (.ireturn, 1) := by decide +kernel
theorem dX6_dripsPlain_0 : decode cX6_dripsPlain 0 = .ok (.aload_n 0, 1) := by decide +kernel
theorem dX6_dripsPlain_1 : decode cX6_dripsPlain 1 = .ok (.bipush 11, 2) := by decide +kernel
theorem dX6_dripsPlain_3 : decode cX6_dripsPlain 3 = .ok (.invokevirtual 304, 3) := by decide +kernel
theorem dX6_dripsPlain_6 : decode cX6_dripsPlain 6 = .ok (.aload_n 0, 1) := by decide +kernel
theorem dX6_dripsPlain_7 : decode cX6_dripsPlain 7 = .ok (.iload_n 1, 1) := by decide +kernel
theorem dX6_dripsPlain_8 : decode cX6_dripsPlain 8 = .ok (.invokevirtual 319, 3) := by decide +kernel
theorem dX6_dripsPlain_11 : decode cX6_dripsPlain 11 = .ok (.aload_n 0, 1) := by decide +kernel
theorem dX6_dripsPlain_12 : decode cX6_dripsPlain 12 = .ok (.getfield 322, 3) := by decide +kernel
theorem dX6_dripsPlain_15 : decode cX6_dripsPlain 15 = .ok (.iconst 3, 1) := by decide +kernel
theorem dX6_dripsPlain_16 : decode cX6_dripsPlain 16 = .ok (.imul, 1) := by decide +kernel
theorem dX6_dripsPlain_17 : decode cX6_dripsPlain 17 = .ok (.isub, 1) := by decide +kernel
theorem dX6_dripsPlain_18 : decode cX6_dripsPlain 18 = .ok (.ireturn, 1) := by decide +kernel
theorem dX6_drips_0 : decode cX6_drips 0 = .ok (.aload_n 0, 1) := by decide +kernel
theorem dX6_drips_1 : decode cX6_drips 1 = .ok (.getfield 313, 3) := by decide +kernel
theorem dX6_drips_4 : decode cX6_drips 4 = .ok (.iconst 1, 1) := by decide +kernel
theorem dX6_drips_5 : decode cX6_drips 5 = .ok (.if_icmp .eq 11, 3) := by decide +kernel
theorem dX6_drips_8 : decode cX6_drips 8 = .ok (.aload_n 0, 1) := by decide +kernel
theorem dX6_drips_9 : decode cX6_drips 9 = .ok (.getfield 313, 3) := by decide +kernel
theorem dX6_drips_12 : decode cX6_drips 12 = .ok (.iconst 3, 1) := by decide +kernel
theorem dX6_drips_13 : decode cX6_drips 13 = .ok (.if_icmp .ne 17, 3) := by decide +kernel
theorem dX6_drips_16 : decode cX6_drips 16 = .ok (.aload_n 0, 1) := by decide +kernel
theorem dX6_drips_17 : decode cX6_drips 17 = .ok (.bipush 20, 2) := by decide +kernel
theorem dX6_drips_19 : decode cX6_drips 19 = .ok (.invokevirtual 304, 3) := by decide +kernel
theorem dX6_drips_22 : decode cX6_drips 22 = .ok (.aload_n 0, 1) := by decide +kernel
theorem dX6_drips_23 : decode cX6_drips 23 = .ok (.iload_n 1, 1) := by decide +kernel
theorem dX6_drips_24 : decode cX6_drips 24 = .ok (.invokevirtual 325, 3) := by decide +kernel
theorem dX6_drips_27 : decode cX6_drips 27 = .ok (.iconst 2, 1) := by decide +kernel
theorem dX6_drips_28 : decode cX6_drips 28 = .ok (.iadd, 1) := by decide +kernel
theorem dX6_drips_29 : decode cX6_drips 29 = .ok (.ireturn, 1) := by decide +kernel
theorem dX6_drips_30 : decode cX6_drips 30 = .ok (.aload_n 0, 1) := by decide +kernel
theorem dX6_drips_31 : decode cX6_drips 31 = .ok (.getfield 313, 3) := by decide +kernel
theorem dX6_drips_34 : decode cX6_drips 34 = .ok (.iconst 4, 1) := by decide +kernel
theorem dX6_drips_35 : decode cX6_drips 35 = .ok (.if_icmp .ne 26, 3) := by decide +kernel
theorem dX6_drips_38 : decode cX6_drips 38 = .ok (.aload_n 0, 1) := by decide +kernel
theorem dX6_drips_39 : decode cX6_drips 39 = .ok (.bipush 41, 2) := by decide +kernel
theorem dX6_drips_41 : decode cX6_drips 41 = .ok (.invokevirtual 304, 3) := by decide +kernel
theorem dX6_drips_44 : decode cX6_drips 44 = .ok (.aload_n 0, 1) := by decide +kernel
theorem dX6_drips_45 : decode cX6_drips 45 = .ok (.iload_n 1, 1) := by decide +kernel
theorem dX6_drips_46 : decode cX6_drips 46 = .ok (.invokevirtual 325, 3) := by decide +kernel
theorem dX6_drips_49 : decode cX6_drips 49 = .ok (.istore_n 2, 1) := by decide +kernel
theorem dX6_drips_50 : decode cX6_drips 50 = .ok (.iload_n 2, 1) := by decide +kernel
theorem dX6_drips_51 : decode cX6_drips 51 = .ok (.aload_n 0, 1) := by decide +kernel
theorem dX6_drips_52 : decode cX6_drips 52 = .ok (.aload_n 0, 1) := by decide +kernel
theorem dX6_drips_53 : decode cX6_drips 53 = .ok (.getfield 322, 3) := by decide +kernel
theorem dX6_drips_56 : decode cX6_drips 56 = .ok (.invokevirtual 319, 3) := by decide +kernel
theorem dX6_drips_59 : decode cX6_drips 59 = .ok (.ixor, 1) := by decide +kernel
theorem dX6_drips_60 : decode cX6_drips 60 = .ok (.ireturn, 1) := by decide +kernel
theorem dX6_drips_61 : decode cX6_drips 61 = .ok (.aload_n 0, 1) := by decide +kernel
theorem dX6_drips_62 : decode cX6_drips 62 = .ok (.iload_n 1, 1) := by decide +kernel
theorem dX6_drips_63 : decode cX6_drips 63 = .ok (.invokevirtual 325, 3) := by decide +kernel
theorem dX6_drips_66 : decode cX6_drips 66 = .ok (.ireturn, 1) := by decide +kernel
theorem dX6_partsPlain_0 : decode cX6_partsPlain 0 = .ok (.aload_n 0, 1) := by decide +kernel
theorem dX6_partsPlain_1 : decode cX6_partsPlain 1 = .ok (.bipush 12, 2) := by decide +kernel
theorem dX6_partsPlain_3 : decode cX6_partsPlain 3 = .ok (.invokevirtual 304, 3) := by decide +kernel
theorem dX6_partsPlain_6 : decode cX6_partsPlain 6 = .ok (.aload_n 0, 1) := by decide +kernel
theorem dX6_partsPlain_7 : decode cX6_partsPlain 7 = .ok (.aload_n 0, 1) := by decide +kernel
theorem dX6_partsPlain_8 : decode cX6_partsPlain 8 = .ok (.getfield 328, 3) := by decide +kernel
theorem dX6_partsPlain_11 : decode cX6_partsPlain 11 = .ok (.ifCond .ne 14, 3) := by decide +kernel
theorem dX6_partsPlain_14 : decode cX6_partsPlain 14 = .ok (.aload_n 0, 1) := by decide +kernel
theorem dX6_partsPlain_15 : decode cX6_partsPlain 15 = .ok (.getfield 307, 3) := by decide +kernel
theorem dX6_partsPlain_18 : decode cX6_partsPlain 18 = .ok (.aload_n 0, 1) := by decide +kernel
theorem dX6_partsPlain_19 : decode cX6_partsPlain 19 = .ok (.getfield 322, 3) := by decide +kernel
theorem dX6_partsPlain_22 : decode cX6_partsPlain 22 = .ok (.if_icmp .ne 7, 3) := by decide +kernel
theorem dX6_partsPlain_25 : decode cX6_partsPlain 25 = .ok (.iconst 1, 1) := by decide +kernel
theorem dX6_partsPlain_26 : decode cX6_partsPlain 26 = .ok (.goto 4, 3) := by decide +kernel
theorem dX6_partsPlain_29 : decode cX6_partsPlain 29 = .ok (.iconst 0, 1) := by decide +kernel
theorem dX6_partsPlain_30 : decode cX6_partsPlain 30 = .ok (.putfield 328, 3) := by decide +kernel
theorem dX6_partsPlain_33 : decode cX6_partsPlain 33 = .ok (.aload_n 0, 1) := by decide +kernel
theorem dX6_partsPlain_34 : decode cX6_partsPlain 34 = .ok (.getfield 328, 3) := by decide +kernel
theorem dX6_partsPlain_37 : decode cX6_partsPlain 37 = .ok (.ifCond .eq 7, 3) := by decide +kernel
theorem dX6_partsPlain_40 : decode cX6_partsPlain 40 = .ok (.iconst 0, 1) := by decide +kernel
theorem dX6_partsPlain_41 : decode cX6_partsPlain 41 = .ok (.goto 14, 3) := by decide +kernel
theorem dX6_partsPlain_44 : decode cX6_partsPlain 44 = .ok (.iload_n 1, 1) := by decide +kernel
theorem dX6_partsPlain_45 : decode cX6_partsPlain 45 = .ok (.aload_n 0, 1) := by decide +kernel
theorem dX6_partsPlain_46 : decode cX6_partsPlain 46 = .ok (.getfield 322, 3) := by decide +kernel
theorem dX6_partsPlain_49 : decode cX6_partsPlain 49 = .ok (.aload_n 0, 1) := by decide +kernel
theorem dX6_partsPlain_50 : decode cX6_partsPlain 50 = .ok (.getfield 307, 3) := by decide +kernel
theorem dX6_partsPlain_53 : decode cX6_partsPlain 53 = .ok (.isub, 1) := by decide +kernel
theorem dX6_partsPlain_54 : decode cX6_partsPlain 54 = .ok (.idiv, 1) := by decide +kernel
theorem dX6_partsPlain_55 : decode cX6_partsPlain 55 = .ok (.ireturn, 1) := by decide +kernel
theorem dX6_parts_0 : decode cX6_parts 0 = .ok (.aload_n 0, 1) := by decide +kernel
theorem dX6_parts_1 : decode cX6_parts 1 = .ok (.getfield 313, 3) := by decide +kernel
theorem dX6_parts_4 : decode cX6_parts 4 = .ok (.iconst 3, 1) := by decide +kernel
theorem dX6_parts_5 : decode cX6_parts 5 = .ok (.if_icmp .ne 22, 3) := by decide +kernel
theorem dX6_parts_8 : decode cX6_parts 8 = .ok (.aload_n 0, 1) := by decide +kernel
theorem dX6_parts_9 : decode cX6_parts 9 = .ok (.bipush 50, 2) := by decide +kernel
theorem dX6_parts_11 : decode cX6_parts 11 = .ok (.invokevirtual 304, 3) := by decide +kernel
theorem dX6_parts_14 : decode cX6_parts 14 = .ok (.aload_n 0, 1) := by decide +kernel
theorem dX6_parts_15 : decode cX6_parts 15 = .ok (.iload_n 1, 1) := by decide +kernel
theorem dX6_parts_16 : decode cX6_parts 16 = .ok (.aload_n 0, 1) := by decide +kernel
theorem dX6_parts_17 : decode cX6_parts 17 = .ok (.getfield 322, 3) := by decide +kernel
theorem dX6_parts_20 : decode cX6_parts 20 = .ok (.isub, 1) := by decide +kernel
theorem dX6_parts_21 : decode cX6_parts 21 = .ok (.invokevirtual 331, 3) := by decide +kernel
theorem dX6_parts_24 : decode cX6_parts 24 = .ok (.iconst 2, 1) := by decide +kernel
theorem dX6_parts_25 : decode cX6_parts 25 = .ok (.imul, 1) := by decide +kernel
theorem dX6_parts_26 : decode cX6_parts 26 = .ok (.ireturn, 1) := by decide +kernel
theorem dX6_parts_27 : decode cX6_parts 27 = .ok (.aload_n 0, 1) := by decide +kernel
theorem dX6_parts_28 : decode cX6_parts 28 = .ok (.getfield 313, 3) := by decide +kernel
theorem dX6_parts_31 : decode cX6_parts 31 = .ok (.iconst 5, 1) := by decide +kernel
theorem dX6_parts_32 : decode cX6_parts 32 = .ok (.if_icmp .ne 37, 3) := by decide +kernel
theorem dX6_parts_35 : decode cX6_parts 35 = .ok (.aload_n 0, 1) := by decide +kernel
theorem dX6_parts_36 : decode cX6_parts 36 = .ok (.bipush 61, 2) := by decide +kernel
theorem dX6_parts_38 : decode cX6_parts 38 = .ok (.invokevirtual 304, 3) := by decide +kernel
theorem dX6_parts_41 : decode cX6_parts 41 = .ok (.aload_n 0, 1) := by decide +kernel
theorem dX6_parts_42 : decode cX6_parts 42 = .ok (.iload_n 1, 1) := by decide +kernel
theorem dX6_parts_43 : decode cX6_parts 43 = .ok (.invokevirtual 331, 3) := by decide +kernel
theorem dX6_parts_46 : decode cX6_parts 46 = .ok (.istore_n 2, 1) := by decide +kernel
theorem dX6_parts_47 : decode cX6_parts 47 = .ok (.aload_n 0, 1) := by decide +kernel
theorem dX6_parts_48 : decode cX6_parts 48 = .ok (.getfield 328, 3) := by decide +kernel
theorem dX6_parts_51 : decode cX6_parts 51 = .ok (.ifCond .eq 7, 3) := by decide +kernel
theorem dX6_parts_54 : decode cX6_parts 54 = .ok (.iconst 0, 1) := by decide +kernel
theorem dX6_parts_55 : decode cX6_parts 55 = .ok (.goto 13, 3) := by decide +kernel
theorem dX6_parts_58 : decode cX6_parts 58 = .ok (.iload_n 2, 1) := by decide +kernel
theorem dX6_parts_59 : decode cX6_parts 59 = .ok (.aload_n 0, 1) := by decide +kernel
theorem dX6_parts_60 : decode cX6_parts 60 = .ok (.aload_n 0, 1) := by decide +kernel
theorem dX6_parts_61 : decode cX6_parts 61 = .ok (.getfield 307, 3) := by decide +kernel
theorem dX6_parts_64 : decode cX6_parts 64 = .ok (.invokevirtual 319, 3) := by decide +kernel
theorem dX6_parts_67 : decode cX6_parts 67 = .ok (.iadd, 1) := by decide +kernel
theorem dX6_parts_68 : decode cX6_parts 68 = .ok (.ireturn, 1) := by decide +kernel
theorem dX6_parts_69 : decode cX6_parts 69 = .ok (.aload_n 0, 1) := by decide +kernel
theorem dX6_parts_70 : decode cX6_parts 70 = .ok (.iload_n 1, 1) := by decide +kernel
theorem dX6_parts_71 : decode cX6_parts 71 = .ok (.invokevirtual 331, 3) := by decide +kernel
theorem dX6_parts_74 : decode cX6_parts 74 = .ok (.ireturn, 1) := by decide +kernel
theorem dX6_haltsPlain_0 : decode cX6_haltsPlain 0 = .ok (.aload_n 0, 1) := by decide +kernel
theorem dX6_haltsPlain_1 : decode cX6_haltsPlain 1 = .ok (.bipush 13, 2) := by decide +kernel
theorem dX6_haltsPlain_3 : decode cX6_haltsPlain 3 = .ok (.invokevirtual 304, 3) := by decide +kernel
theorem dX6_haltsPlain_6 : decode cX6_haltsPlain 6 = .ok (.aload_n 0, 1) := by decide +kernel
theorem dX6_haltsPlain_7 : decode cX6_haltsPlain 7 = .ok (.iload_n 1, 1) := by decide +kernel
theorem dX6_haltsPlain_8 : decode cX6_haltsPlain 8 = .ok (.invokevirtual 334, 3) := by decide +kernel
theorem dX6_haltsPlain_11 : decode cX6_haltsPlain 11 = .ok (.sipush 130, 3) := by decide +kernel
theorem dX6_haltsPlain_14 : decode cX6_haltsPlain 14 = .ok (.ixor, 1) := by decide +kernel
theorem dX6_haltsPlain_15 : decode cX6_haltsPlain 15 = .ok (.ireturn, 1) := by decide +kernel
theorem dX6_halts_0 : decode cX6_halts 0 = .ok (.aload_n 0, 1) := by decide +kernel
theorem dX6_halts_1 : decode cX6_halts 1 = .ok (.getfield 313, 3) := by decide +kernel
theorem dX6_halts_4 : decode cX6_halts 4 = .ok (.iconst 2, 1) := by decide +kernel
theorem dX6_halts_5 : decode cX6_halts 5 = .ok (.if_icmp .eq 11, 3) := by decide +kernel
theorem dX6_halts_8 : decode cX6_halts 8 = .ok (.aload_n 0, 1) := by decide +kernel
theorem dX6_halts_9 : decode cX6_halts 9 = .ok (.getfield 313, 3) := by decide +kernel
theorem dX6_halts_12 : decode cX6_halts 12 = .ok (.iconst 4, 1) := by decide +kernel
theorem dX6_halts_13 : decode cX6_halts 13 = .ok (.if_icmp .ne 26, 3) := by decide +kernel
theorem dX6_halts_16 : decode cX6_halts 16 = .ok (.aload_n 0, 1) := by decide +kernel
theorem dX6_halts_17 : decode cX6_halts 17 = .ok (.bipush 31, 2) := by decide +kernel
theorem dX6_halts_19 : decode cX6_halts 19 = .ok (.invokevirtual 304, 3) := by decide +kernel
theorem dX6_halts_22 : decode cX6_halts 22 = .ok (.aload_n 0, 1) := by decide +kernel
theorem dX6_halts_23 : decode cX6_halts 23 = .ok (.iload_n 1, 1) := by decide +kernel
theorem dX6_halts_24 : decode cX6_halts 24 = .ok (.invokevirtual 337, 3) := by decide +kernel
theorem dX6_halts_27 : decode cX6_halts 27 = .ok (.istore_n 2, 1) := by decide +kernel
theorem dX6_halts_28 : decode cX6_halts 28 = .ok (.iload_n 2, 1) := by decide +kernel
theorem dX6_halts_29 : decode cX6_halts 29 = .ok (.aload_n 0, 1) := by decide +kernel
theorem dX6_halts_30 : decode cX6_halts 30 = .ok (.aload_n 0, 1) := by decide +kernel
theorem dX6_halts_31 : decode cX6_halts 31 = .ok (.getfield 307, 3) := by decide +kernel
theorem dX6_halts_34 : decode cX6_halts 34 = .ok (.invokevirtual 340, 3) := by decide +kernel
theorem dX6_halts_37 : decode cX6_halts 37 = .ok (.isub, 1) := by decide +kernel
theorem dX6_halts_38 : decode cX6_halts 38 = .ok (.ireturn, 1) := by decide +kernel
theorem dX6_halts_39 : decode cX6_halts 39 = .ok (.aload_n 0, 1) := by decide +kernel
theorem dX6_halts_40 : decode cX6_halts 40 = .ok (.getfield 313, 3) := by decide +kernel
theorem dX6_halts_43 : decode cX6_halts 43 = .ok (.iconst 5, 1) := by decide +kernel
theorem dX6_halts_44 : decode cX6_halts 44 = .ok (.if_icmp .ne 17, 3) := by decide +kernel
theorem dX6_halts_47 : decode cX6_halts 47 = .ok (.aload_n 0, 1) := by decide +kernel
theorem dX6_halts_48 : decode cX6_halts 48 = .ok (.bipush 60, 2) := by decide +kernel
theorem dX6_halts_50 : decode cX6_halts 50 = .ok (.invokevirtual 304, 3) := by decide +kernel
theorem dX6_halts_53 : decode cX6_halts 53 = .ok (.aload_n 0, 1) := by decide +kernel
theorem dX6_halts_54 : decode cX6_halts 54 = .ok (.iload_n 1, 1) := by decide +kernel
theorem dX6_halts_55 : decode cX6_halts 55 = .ok (.invokevirtual 337, 3) := by decide +kernel
theorem dX6_halts_58 : decode cX6_halts 58 = .ok (.iconst 3, 1) := by decide +kernel
theorem dX6_halts_59 : decode cX6_halts 59 = .ok (.imul, 1) := by decide +kernel
theorem dX6_halts_60 : decode cX6_halts 60 = .ok (.ireturn, 1) := by decide +kernel
theorem dX6_halts_61 : decode cX6_halts 61 = .ok (.aload_n 0, 1) := by decide +kernel
theorem dX6_halts_62 : decode cX6_halts 62 = .ok (.iload_n 1, 1) := by decide +kernel
theorem dX6_halts_63 : decode cX6_halts 63 = .ok (.invokevirtual 337, 3) := by decide +kernel
theorem dX6_halts_66 : decode cX6_halts 66 = .ok (.ireturn, 1) := by decide +kernel
theorem dX6_act_0 : decode cX6_act 0 = .ok (.aload_n 0, 1) := by decide +kernel
theorem dX6_act_1 : decode cX6_act 1 = .ok (.iconst 0, 1) := by decide +kernel
theorem dX6_act_2 : decode cX6_act 2 = .ok (.putfield 301, 3) := by decide +kernel
theorem dX6_act_5 : decode cX6_act 5 = .ok (.iload_n 1, 1) := by decide +kernel
theorem dX6_act_6 : decode cX6_act 6 = .ok (.invokestatic 288, 3) := by decide +kernel
theorem dX6_act_9 : decode cX6_act 9 = .ok (.ifCond .eq 24, 3) := by decide +kernel
theorem dX6_act_12 : decode cX6_act 12 = .ok (.iload_n 2, 1) := by decide +kernel
theorem dX6_act_13 : decode cX6_act 13 = .ok (.i2l, 1) := by decide +kernel
theorem dX6_act_14 : decode cX6_act 14 = .ok (.lconst 0, 1) := by decide +kernel
theorem dX6_act_15 : decode cX6_act 15 = .ok (.ldc2_w 168, 3) := by decide +kernel
theorem dX6_act_18 : decode cX6_act 18 = .ok (.invokestatic 70, 3) := by decide +kernel
theorem dX6_act_21 : decode cX6_act 21 = .ok (.ifCond .eq 12, 3) := by decide +kernel
theorem dX6_act_24 : decode cX6_act 24 = .ok (.aload_n 0, 1) := by decide +kernel
theorem dX6_act_25 : decode cX6_act 25 = .ok (.iload_n 1, 1) := by decide +kernel
theorem dX6_act_26 : decode cX6_act 26 = .ok (.invokevirtual 295, 3) := by decide +kernel
theorem dX6_act_29 : decode cX6_act 29 = .ok (.iconst 1, 1) := by decide +kernel
theorem dX6_act_30 : decode cX6_act 30 = .ok (.if_icmp .eq 5, 3) := by decide +kernel
theorem dX6_act_33 : decode cX6_act 33 = .ok (.iconst 0, 1) := by decide +kernel
theorem dX6_act_34 : decode cX6_act 34 = .ok (.ireturn, 1) := by decide +kernel
theorem dX6_act_35 : decode cX6_act 35 = .ok (.aload_n 0, 1) := by decide +kernel
theorem dX6_act_36 : decode cX6_act 36 = .ok (.iconst 0, 1) := by decide +kernel
theorem dX6_act_37 : decode cX6_act 37 = .ok (.putfield 328, 3) := by decide +kernel
theorem dX6_act_40 : decode cX6_act 40 = .ok (.aload_n 0, 1) := by decide +kernel
theorem dX6_act_41 : decode cX6_act 41 = .ok (.aload_n 0, 1) := by decide +kernel
theorem dX6_act_42 : decode cX6_act 42 = .ok (.aload_n 0, 1) := by decide +kernel
theorem dX6_act_43 : decode cX6_act 43 = .ok (.getfield 52, 3) := by decide +kernel
theorem dX6_act_46 : decode cX6_act 46 = .ok (.iload_n 1, 1) := by decide +kernel
theorem dX6_act_47 : decode cX6_act 47 = .ok (.iaload, 1) := by decide +kernel
theorem dX6_act_48 : decode cX6_act 48 = .ok (.iconst 0, 1) := by decide +kernel
theorem dX6_act_49 : decode cX6_act 49 = .ok (.invokevirtual 182, 3) := by decide +kernel
theorem dX6_act_52 : decode cX6_act 52 = .ok (.putfield 313, 3) := by decide +kernel
theorem dX6_act_55 : decode cX6_act 55 = .ok (.aload_n 0, 1) := by decide +kernel
theorem dX6_act_56 : decode cX6_act 56 = .ok (.aload_n 0, 1) := by decide +kernel
theorem dX6_act_57 : decode cX6_act 57 = .ok (.getfield 52, 3) := by decide +kernel
theorem dX6_act_60 : decode cX6_act 60 = .ok (.iload_n 1, 1) := by decide +kernel
theorem dX6_act_61 : decode cX6_act 61 = .ok (.iaload, 1) := by decide +kernel
theorem dX6_act_62 : decode cX6_act 62 = .ok (.putfield 307, 3) := by decide +kernel
theorem dX6_act_65 : decode cX6_act 65 = .ok (.aload_n 0, 1) := by decide +kernel
theorem dX6_act_66 : decode cX6_act 66 = .ok (.aload_n 0, 1) := by decide +kernel
theorem dX6_act_67 : decode cX6_act 67 = .ok (.aload_n 0, 1) := by decide +kernel
theorem dX6_act_68 : decode cX6_act 68 = .ok (.getfield 52, 3) := by decide +kernel
theorem dX6_act_71 : decode cX6_act 71 = .ok (.iload_n 1, 1) := by decide +kernel
theorem dX6_act_72 : decode cX6_act 72 = .ok (.iaload, 1) := by decide +kernel
theorem dX6_act_73 : decode cX6_act 73 = .ok (.iconst 1, 1) := by decide +kernel
theorem dX6_act_74 : decode cX6_act 74 = .ok (.invokevirtual 182, 3) := by decide +kernel
theorem dX6_act_77 : decode cX6_act 77 = .ok (.putfield 322, 3) := by decide +kernel
theorem dX6_act_80 : decode cX6_act 80 = .ok (.iload_n 2, 1) := by decide +kernel
theorem dX6_act_81 : decode cX6_act 81 = .ok (.ifCond .ne 11, 3) := by decide +kernel
theorem dX6_act_84 : decode cX6_act 84 = .ok (.aload_n 0, 1) := by decide +kernel
theorem dX6_act_85 : decode cX6_act 85 = .ok (.iload_n 3, 1) := by decide +kernel
theorem dX6_act_86 : decode cX6_act 86 = .ok (.invokevirtual 319, 3) := by decide +kernel
theorem dX6_act_89 : decode cX6_act 89 = .ok (.goto 34, 3) := by decide +kernel
theorem dX6_act_92 : decode cX6_act 92 = .ok (.iload_n 2, 1) := by decide +kernel
theorem dX6_act_93 : decode cX6_act 93 = .ok (.iconst 1, 1) := by decide +kernel
theorem dX6_act_94 : decode cX6_act 94 = .ok (.if_icmp .ne 11, 3) := by decide +kernel
theorem dX6_act_97 : decode cX6_act 97 = .ok (.aload_n 0, 1) := by decide +kernel
theorem dX6_act_98 : decode cX6_act 98 = .ok (.iload_n 3, 1) := by decide +kernel
theorem dX6_act_99 : decode cX6_act 99 = .ok (.invokevirtual 334, 3) := by decide +kernel
theorem dX6_act_102 : decode cX6_act 102 = .ok (.goto 21, 3) := by decide +kernel
theorem dX6_act_105 : decode cX6_act 105 = .ok (.iload_n 2, 1) := by decide +kernel
theorem dX6_act_106 : decode cX6_act 106 = .ok (.iconst 2, 1) := by decide +kernel
theorem dX6_act_107 : decode cX6_act 107 = .ok (.if_icmp .ne 11, 3) := by decide +kernel
theorem dX6_act_110 : decode cX6_act 110 = .ok (.aload_n 0, 1) := by decide +kernel
theorem dX6_act_111 : decode cX6_act 111 = .ok (.iload_n 3, 1) := by decide +kernel
theorem dX6_act_112 : decode cX6_act 112 = .ok (.invokevirtual 340, 3) := by decide +kernel
theorem dX6_act_115 : decode cX6_act 115 = .ok (.goto 8, 3) := by decide +kernel
theorem dX6_act_118 : decode cX6_act 118 = .ok (.aload_n 0, 1) := by decide +kernel
theorem dX6_act_119 : decode cX6_act 119 = .ok (.iload_n 3, 1) := by decide +kernel
theorem dX6_act_120 : decode cX6_act 120 = .ok (.invokevirtual 343, 3) := by decide +kernel
theorem dX6_act_123 : decode cX6_act 123 = .ok (.istore 4, 2) := by decide +kernel
theorem dX6_act_125 : decode cX6_act 125 = .ok (.aload_n 0, 1) := by decide +kernel
theorem dX6_act_126 : decode cX6_act 126 = .ok (.getfield 328, 3) := by decide +kernel
theorem dX6_act_129 : decode cX6_act 129 = .ok (.ifCond .eq 8, 3) := by decide +kernel
theorem dX6_act_132 : decode cX6_act 132 = .ok (.bipush (-15), 2) := by decide +kernel
theorem dX6_act_134 : decode cX6_act 134 = .ok (.goto 5, 3) := by decide +kernel
theorem dX6_act_137 : decode cX6_act 137 = .ok (.iload 4, 2) := by decide +kernel
theorem dX6_act_139 : decode cX6_act 139 = .ok (.ireturn, 1) := by decide +kernel
theorem dX6_trace_0 : decode cX6_trace 0 = .ok (.iload_n 1, 1) := by decide +kernel
theorem dX6_trace_1 : decode cX6_trace 1 = .ok (.i2l, 1) := by decide +kernel
theorem dX6_trace_2 : decode cX6_trace 2 = .ok (.lconst 0, 1) := by decide +kernel
theorem dX6_trace_3 : decode cX6_trace 3 = .ok (.aload_n 0, 1) := by decide +kernel
theorem dX6_trace_4 : decode cX6_trace 4 = .ok (.getfield 301, 3) := by decide +kernel
theorem dX6_trace_7 : decode cX6_trace 7 = .ok (.iconst 1, 1) := by decide +kernel
theorem dX6_trace_8 : decode cX6_trace 8 = .ok (.isub, 1) := by decide +kernel
theorem dX6_trace_9 : decode cX6_trace 9 = .ok (.i2l, 1) := by decide +kernel
theorem dX6_trace_10 : decode cX6_trace 10 = .ok (.invokestatic 70, 3) := by decide +kernel
theorem dX6_trace_13 : decode cX6_trace 13 = .ok (.ifCond .eq 12, 3) := by decide +kernel
theorem dX6_trace_16 : decode cX6_trace 16 = .ok (.aload_n 0, 1) := by decide +kernel
theorem dX6_trace_17 : decode cX6_trace 17 = .ok (.getfield 58, 3) := by decide +kernel
theorem dX6_trace_20 : decode cX6_trace 20 = .ok (.iload_n 1, 1) := by decide +kernel
theorem dX6_trace_21 : decode cX6_trace 21 = .ok (.iaload, 1) := by decide +kernel
theorem dX6_trace_22 : decode cX6_trace 22 = .ok (.goto 5, 3) := by decide +kernel
theorem dX6_trace_25 : decode cX6_trace 25 = .ok (.bipush (-3), 2) := by decide +kernel
theorem dX6_trace_27 : decode cX6_trace 27 = .ok (.ireturn, 1) := by decide +kernel
theorem dX6_many_0 : decode cX6_many 0 = .ok (.iload_n 1, 1) := by decide +kernel
theorem dX6_many_1 : decode cX6_many 1 = .ok (.tableswitch 90 0 6 #[43, 50, 58, 66, 75, 80, 85], 43) := by decide +kernel
theorem dX6_many_44 : decode cX6_many 44 = .ok (.aload_n 0, 1) := by decide +kernel
theorem dX6_many_45 : decode cX6_many 45 = .ok (.getfield 7, 3) := by decide +kernel
theorem dX6_many_48 : decode cX6_many 48 = .ok (.iconst 0, 1) := by decide +kernel
theorem dX6_many_49 : decode cX6_many 49 = .ok (.iaload, 1) := by decide +kernel
theorem dX6_many_50 : decode cX6_many 50 = .ok (.ireturn, 1) := by decide +kernel
theorem dX6_many_51 : decode cX6_many 51 = .ok (.aload_n 0, 1) := by decide +kernel
theorem dX6_many_52 : decode cX6_many 52 = .ok (.invokevirtual 211, 3) := by decide +kernel
theorem dX6_many_55 : decode cX6_many 55 = .ok (.invokestatic 214, 3) := by decide +kernel
theorem dX6_many_58 : decode cX6_many 58 = .ok (.ireturn, 1) := by decide +kernel
theorem dX6_many_59 : decode cX6_many 59 = .ok (.aload_n 0, 1) := by decide +kernel
theorem dX6_many_60 : decode cX6_many 60 = .ok (.invokevirtual 229, 3) := by decide +kernel
theorem dX6_many_63 : decode cX6_many 63 = .ok (.invokestatic 214, 3) := by decide +kernel
theorem dX6_many_66 : decode cX6_many 66 = .ok (.ireturn, 1) := by decide +kernel
theorem dX6_many_67 : decode cX6_many 67 = .ok (.aload_n 0, 1) := by decide +kernel
theorem dX6_many_68 : decode cX6_many 68 = .ok (.iconst 1, 1) := by decide +kernel
theorem dX6_many_69 : decode cX6_many 69 = .ok (.invokevirtual 232, 3) := by decide +kernel
theorem dX6_many_72 : decode cX6_many 72 = .ok (.invokestatic 214, 3) := by decide +kernel
theorem dX6_many_75 : decode cX6_many 75 = .ok (.ireturn, 1) := by decide +kernel
theorem dX6_many_76 : decode cX6_many 76 = .ok (.aload_n 0, 1) := by decide +kernel
theorem dX6_many_77 : decode cX6_many 77 = .ok (.getfield 165, 3) := by decide +kernel
theorem dX6_many_80 : decode cX6_many 80 = .ok (.ireturn, 1) := by decide +kernel
theorem dX6_many_81 : decode cX6_many 81 = .ok (.aload_n 0, 1) := by decide +kernel
theorem dX6_many_82 : decode cX6_many 82 = .ok (.getfield 74, 3) := by decide +kernel
theorem dX6_many_85 : decode cX6_many 85 = .ok (.ireturn, 1) := by decide +kernel
theorem dX6_many_86 : decode cX6_many 86 = .ok (.aload_n 0, 1) := by decide +kernel
theorem dX6_many_87 : decode cX6_many 87 = .ok (.getfield 301, 3) := by decide +kernel
theorem dX6_many_90 : decode cX6_many 90 = .ok (.ireturn, 1) := by decide +kernel
theorem dX6_many_91 : decode cX6_many 91 = .ok (.iconst (-1), 1) := by decide +kernel
theorem dX6_many_92 : decode cX6_many 92 = .ok (.ireturn, 1) := by decide +kernel
theorem dX6_keep_0 : decode cX6_keep 0 = .ok (.iconst 0, 1) := by decide +kernel
theorem dX6_keep_1 : decode cX6_keep 1 = .ok (.istore_n 1, 1) := by decide +kernel
theorem dX6_keep_2 : decode cX6_keep 2 = .ok (.iload_n 1, 1) := by decide +kernel
theorem dX6_keep_3 : decode cX6_keep 3 = .ok (.bipush 56, 2) := by decide +kernel
theorem dX6_keep_5 : decode cX6_keep 5 = .ok (.if_icmp .ge 21, 3) := by decide +kernel
theorem dX6_keep_8 : decode cX6_keep 8 = .ok (.aload_n 0, 1) := by decide +kernel
theorem dX6_keep_9 : decode cX6_keep 9 = .ok (.getfield 13, 3) := by decide +kernel
theorem dX6_keep_12 : decode cX6_keep 12 = .ok (.iload_n 1, 1) := by decide +kernel
theorem dX6_keep_13 : decode cX6_keep 13 = .ok (.aload_n 0, 1) := by decide +kernel
theorem dX6_keep_14 : decode cX6_keep 14 = .ok (.getfield 7, 3) := by decide +kernel
theorem dX6_keep_17 : decode cX6_keep 17 = .ok (.iload_n 1, 1) := by decide +kernel
theorem dX6_keep_18 : decode cX6_keep 18 = .ok (.iaload, 1) := by decide +kernel
theorem dX6_keep_19 : decode cX6_keep 19 = .ok (.iastore, 1) := by decide +kernel
theorem dX6_keep_20 : decode cX6_keep 20 = .ok (.iinc 1 1, 3) := by decide +kernel
theorem dX6_keep_23 : decode cX6_keep 23 = .ok (.goto (-21), 3) := by decide +kernel
theorem dX6_keep_26 : decode cX6_keep 26 = .ok (.aload_n 0, 1) := by decide +kernel
theorem dX6_keep_27 : decode cX6_keep 27 = .ok (.iconst 1, 1) := by decide +kernel
theorem dX6_keep_28 : decode cX6_keep 28 = .ok (.putfield 346, 3) := by decide +kernel
theorem dX6_keep_31 : decode cX6_keep 31 = .ok (.iconst 1, 1) := by decide +kernel
theorem dX6_keep_32 : decode cX6_keep 32 = .ok (.ireturn, 1) := by decide +kernel
theorem dX6_again_0 : decode cX6_again 0 = .ok (.aload_n 0, 1) := by decide +kernel
theorem dX6_again_1 : decode cX6_again 1 = .ok (.getfield 346, 3) := by decide +kernel
theorem dX6_again_4 : decode cX6_again 4 = .ok (.ifCond .ne 6, 3) := by decide +kernel
theorem dX6_again_7 : decode cX6_again 7 = .ok (.bipush (-3), 2) := by decide +kernel
theorem dX6_again_9 : decode cX6_again 9 = .ok (.ireturn, 1) := by decide +kernel
theorem dX6_again_10 : decode cX6_again 10 = .ok (.iconst 0, 1) := by decide +kernel
theorem dX6_again_11 : decode cX6_again 11 = .ok (.istore_n 1, 1) := by decide +kernel
theorem dX6_again_12 : decode cX6_again 12 = .ok (.iload_n 1, 1) := by decide +kernel
theorem dX6_again_13 : decode cX6_again 13 = .ok (.bipush 56, 2) := by decide +kernel
theorem dX6_again_15 : decode cX6_again 15 = .ok (.if_icmp .ge 21, 3) := by decide +kernel
theorem dX6_again_18 : decode cX6_again 18 = .ok (.aload_n 0, 1) := by decide +kernel
theorem dX6_again_19 : decode cX6_again 19 = .ok (.getfield 7, 3) := by decide +kernel
theorem dX6_again_22 : decode cX6_again 22 = .ok (.iload_n 1, 1) := by decide +kernel
theorem dX6_again_23 : decode cX6_again 23 = .ok (.aload_n 0, 1) := by decide +kernel
theorem dX6_again_24 : decode cX6_again 24 = .ok (.getfield 13, 3) := by decide +kernel
theorem dX6_again_27 : decode cX6_again 27 = .ok (.iload_n 1, 1) := by decide +kernel
theorem dX6_again_28 : decode cX6_again 28 = .ok (.iaload, 1) := by decide +kernel
theorem dX6_again_29 : decode cX6_again 29 = .ok (.iastore, 1) := by decide +kernel
theorem dX6_again_30 : decode cX6_again 30 = .ok (.iinc 1 1, 3) := by decide +kernel
theorem dX6_again_33 : decode cX6_again 33 = .ok (.goto (-21), 3) := by decide +kernel
theorem dX6_again_36 : decode cX6_again 36 = .ok (.aload_n 0, 1) := by decide +kernel
theorem dX6_again_37 : decode cX6_again 37 = .ok (.getfield 7, 3) := by decide +kernel
theorem dX6_again_40 : decode cX6_again 40 = .ok (.iconst 0, 1) := by decide +kernel
theorem dX6_again_41 : decode cX6_again 41 = .ok (.iaload, 1) := by decide +kernel
theorem dX6_again_42 : decode cX6_again 42 = .ok (.ireturn, 1) := by decide +kernel
end
section
/-! THE ABSTRACT MACHINE: places for addresses, one memory of ints, contracts over it -/
def GW : List Cond := lw_tbl.filter goodWord
theorem gw {w : Cond} (i : Nat) (h : lw_tbl[i]? = some w) (hg : goodWord w = true) : w ∈ GW := List.mem_filter.mpr ⟨List.mem_of_getElem? h, hg⟩
theorem gw_good {w : Cond} (h : w ∈ GW) : (w.onTables && w.keeps) = true ∨ ∃ ty, w = .arrayClass ty := good_of_word (List.mem_filter.mp h).2
/-- a method: its class, name, bytes, locals, return type -/
abbrev MT : Type := String × MethodName × ByteArray × Nat × Option FieldType
def wsM (t : MT) : List Cond := Cond.code t.2.1 t.2.2.1 t.2.2.2.1 t.2.2.2.2 :: GW
abbrev Mem : Type := Nat → Nat → Int32
/-- what a place is: an object (class, fields: a number, or a reference to a place), an int array, an array of references -/
abbrev SC : Type := (Nat × List (Option (Option Nat))) ⊕ (Nat ⊕ (Nat × List (Option Nat)))
abbrev ii : Option (Option Nat) := none
abbrev rr (q : Nat) : Option (Option Nat) := some (some q)
def shTown (b : Nat) : SC := .inl (4, [rr (b + 1), rr (b + 2), rr (b + 3), rr (b + 4), rr (b + 5), rr (b + 6), ii, ii, ii, ii])
def shSheet (b : Nat) : SC := .inl (1, [rr (b + 1), ii, ii])
def shShelf : SC := .inl (2, [ii, ii, ii, ii])
def shArr (n : Nat) : SC := .inr (.inl n)
def SH : List SC := [.inl (5, [rr 1, rr 8, rr 15, rr 22, rr 24, rr 25, rr 26, rr 28, rr 29, rr 30, rr 31, rr 32, rr 33, ii, ii]), shTown 1, shArr 4, shArr 16, shArr 8, shArr 8, shArr 8, shArr 8, shTown 8, shArr 4, shArr 16, shArr 8, shArr 8, shArr 8, shArr 8, shTown 15, shArr 4, shArr 16, shArr 8, shArr 8, shArr 8, shArr 8, .inl (3, [rr 23, ii, ii, ii]), shArr 200, .inr (.inr (1, [some 34, some 36, some 38, some 40])), .inr (.inr (2, [some 42, some 43, some 44, some 45])), .inl (0, [rr 27, ii, ii, ii, ii, ii]), shArr 30, shArr 30, shArr 61, shArr 61, shArr 8, shArr 16, shArr 256, shSheet 34, shArr 40, shSheet 36, shArr 40, shSheet 38, shArr 40, shSheet 40, shArr 40, shShelf, shShelf, shShelf, shShelf, .inl (6, [rr 47, rr 48, rr 49, rr 50, ii, rr 51, ii, ii, ii, ii, ii, ii, rr 52, rr 53, rr 54, rr 55, rr 56, ii, rr 57, rr 58, rr 59, rr 60, rr 61, rr 62, rr 63, ii, ii, ii, ii, ii]), shArr 56, shArr 56, shArr 56, shArr 56, shArr 200, shArr 8, shArr 61, shArr 16, shArr 256, shArr 30, shArr 4, shArr 4, shArr 160, shArr 4, shArr 4, shArr 4, shArr 30]
abbrev classes : List vw_C := [(RX0, TX0, 6), (RX1, TX1, 3), (RX2, TX2, 4), (RX3, TX3, 4), (RX4, TX4, 10), (RX5, TX5, 15), (RX6, TX6, 30)]
abbrev tysT (tt : Nat → ClassId) : List (ClassId × FieldType) := [(tt 0, .int), (tt 1, .object RX1), (tt 2, .object RX2)]
/-- a value of the abstract machine, in the real one -/
def cv (ad : Nat → Nat) : Value → Value
  | .ref k => .ref (ad k)
  | v => v
theorem cv_cat (ad : Nat → Nat) (v : Value) : (cv ad v).category = v.category := by cases v <;> rfl
def cL (ad : Nat → Nat) (l : List (Nat × Value)) : List (Nat × Value) := l.map (fun q => (q.1, cv ad q.2))
def cF (ad : Nat → Nat) (M : Mem) (p : Nat) (k : Nat) (f : Option (Option Nat)) : Value := match f with
  | none => .int (M p k)
  | some r => va_rf (r.map ad)
def cE (ad : Nat → Nat) (tt : Nat → ClassId) (M : Mem) (p : Nat) (c : SC) : va_E := match c with
  | .inl (ci, fs) => .inr (ci, fs.mapIdx (cF ad M p))
  | .inr (.inl n) => .inl (tt 0, n, .inl (M p))
  | .inr (.inr (j, es)) => .inl (tt j, es.length, .inr (.inr (.inr (.inr (fun k => (es[k]?.join).map ad)))))
def cW (ad : Nat → Nat) (tt : Nat → ClassId) (M : Mem) : va_W := SH.mapIdx (fun p c => (ad p, cE ad tt M p c))
theorem cW_at {ad : Nat → Nat} {tt : Nat → ClassId} {M : Mem} {p : Nat} {c : SC} (h : SH[p]? = some c) : (cW ad tt M)[p]? = some (ad p, cE ad tt M p c) := by
  simp [cW, List.getElem?_mapIdx, h]
/-- one number changes -/
def upm (M : Mem) (p k : Nat) (x : Int32) : Mem := fun q => if q = p then upd (M p) k x else M q
/-- a whole row changes -/
def upr (M : Mem) (p : Nat) (f : Nat → Int32) : Mem := fun q => if q = p then f else M q
theorem cE_off {ad : Nat → Nat} {tt : Nat → ClassId} {M M1 : Mem} {p : Nat} {c : SC} (h : M1 p = M p) : cE ad tt M1 p c = cE ad tt M p c := by
  unfold cE cF
  rcases c with ⟨ci, fs⟩ | n | ⟨j, es⟩
  · simp only [h]
  · simp only [h]
  · rfl
theorem cW_upr {ad : Nat → Nat} {tt : Nat → ClassId} {M : Mem} {p n : Nat} {f : Nat → Int32} (h : SH[p]? = some (.inr (.inl n))) : (cW ad tt M).set p (ad p, .inl (tt 0, n, .inl f)) = cW ad tt (upr M p f) := by
  apply List.ext_getElem?
  intro q
  by_cases hq : q = p
  · subst hq
    have hl : q < (cW ad tt M).length := (List.getElem?_eq_some_iff.mp (cW_at (ad := ad) (tt := tt) (M := M) h)).1
    rw [List.getElem?_set_self hl, cW_at h]
    simp [cE, upr]
  · rw [List.getElem?_set_ne (Ne.symm hq)]
    simp only [cW, List.getElem?_mapIdx]
    cases SH[q]? with
    | none => rfl
    | some c =>
      show some (ad q, cE ad tt M q c) = some (ad q, cE ad tt (upr M p f) q c)
      rw [cE_off (M := M) (M1 := upr M p f) (by simp [upr, hq])]
theorem upr_upm {M : Mem} {p k : Nat} {x : Int32} : upr M p (upd (M p) k x) = upm M p k x := rfl
theorem cW_upf {ad : Nat → Nat} {tt : Nat → ClassId} {M : Mem} {p k ci : Nat} {fs : List (Option (Option Nat))} {x : Int32} (h : SH[p]? = some (.inl (ci, fs))) (hk : fs[k]? = some none) : (cW ad tt M).set p (ad p, .inr (ci, (fs.mapIdx (cF ad M p)).set k (.int x))) = cW ad tt (upm M p k x) := by
  apply List.ext_getElem?
  intro q
  by_cases hq : q = p
  · subst hq
    have hl : q < (cW ad tt M).length := (List.getElem?_eq_some_iff.mp (cW_at (ad := ad) (tt := tt) (M := M) h)).1
    rw [List.getElem?_set_self hl, cW_at h]
    have e : (fs.mapIdx (cF ad M q)).set k (.int x) = fs.mapIdx (cF ad (upm M q k x) q) := by
      apply List.ext_getElem?
      intro j
      by_cases hj : j = k
      · subst hj
        have hl2 : j < (fs.mapIdx (cF ad M q)).length := by
          rw [List.length_mapIdx]
          exact (List.getElem?_eq_some_iff.mp hk).1
        rw [List.getElem?_set_self hl2, List.getElem?_mapIdx, hk]
        simp [cF, upm, upd]
      · rw [List.getElem?_set_ne (Ne.symm hj), List.getElem?_mapIdx, List.getElem?_mapIdx]
        cases fs[j]? with
        | none => rfl
        | some f => cases f <;> simp [cF, upm, upd, hj]
    rw [e]
    rfl
  · rw [List.getElem?_set_ne (Ne.symm hq)]
    simp only [cW, List.getElem?_mapIdx]
    cases SH[q]? with
    | none => rfl
    | some c =>
      show some (ad q, cE ad tt M q c) = some (ad q, cE ad tt (upm M p k x) q c)
      rw [cE_off (M := M) (M1 := upm M p k x) (by simp [upm, hq])]
/-! what is given and stays: words of the nest, static rows, texts -/
def nestW : List Cond := [(Jvm.Cond.fieldLinkNest "WeatherDisguise$Town" (34 : Nat) "WeatherDisguise" "LAW_AT_FIRST" "[I" "WeatherDisguise"), (Jvm.Cond.methodLinkNest "WeatherDisguise" (24 : Nat) ({ cls := "WeatherDisguise$Tape", name := "<init>", desc := "()V" } : Jvm.MethodName) "WeatherDisguise"), (Jvm.Cond.methodLinkNest "WeatherDisguise" (43 : Nat) ({ cls := "WeatherDisguise$Acts", name := "<init>", desc := "()V" } : Jvm.MethodName) "WeatherDisguise"), (Jvm.Cond.methodLinkNest "WeatherDisguise" (75 : Nat) ({ cls := "WeatherDisguise$Sheet", name := "<init>", desc := "()V" } : Jvm.MethodName) "WeatherDisguise"), (Jvm.Cond.methodLinkNest "WeatherDisguise" (76 : Nat) ({ cls := "WeatherDisguise$Shelf", name := "<init>", desc := "()V" } : Jvm.MethodName) "WeatherDisguise"), (Jvm.Cond.methodLinkNest "WeatherDisguise$Tape" (127 : Nat) ({ cls := "WeatherDisguise", name := "isWithin", desc := "(III)Z" } : Jvm.MethodName) "WeatherDisguise"), (Jvm.Cond.fieldLinkNest "WeatherDisguise$Tape" (118 : Nat) "WeatherDisguise" "LAW_LEAST" "[I" "WeatherDisguise"), (Jvm.Cond.fieldLinkNest "WeatherDisguise$Tape" (121 : Nat) "WeatherDisguise" "LAW_MOST" "[I" "WeatherDisguise"), (Jvm.Cond.methodLinkNest "WeatherDisguise$Town" (58 : Nat) ({ cls := "WeatherDisguise", name := "isWithin", desc := "(III)Z" } : Jvm.MethodName) "WeatherDisguise"), (Jvm.Cond.methodLinkNest "WeatherDisguise$Town" (74 : Nat) ({ cls := "WeatherDisguise", name := "wayTowards", desc := "(II)I" } : Jvm.MethodName) "WeatherDisguise"), (Jvm.Cond.methodLinkNest "WeatherDisguise$Town" (66 : Nat) ({ cls := "WeatherDisguise", name := "nextHouse", desc := "(II)I" } : Jvm.MethodName) "WeatherDisguise"), (Jvm.Cond.methodLinkNest "WeatherDisguise$Town" (86 : Nat) ({ cls := "WeatherDisguise", name := "held", desc := "(II)I" } : Jvm.MethodName) "WeatherDisguise"), (Jvm.Cond.methodLinkNest "WeatherDisguise$Town" (96 : Nat) ({ cls := "WeatherDisguise", name := "apart", desc := "(II)I" } : Jvm.MethodName) "WeatherDisguise"), (Jvm.Cond.methodLinkNest "WeatherDisguise$Sheet" (22 : Nat) ({ cls := "WeatherDisguise", name := "isWithin", desc := "(III)Z" } : Jvm.MethodName) "WeatherDisguise"), (Jvm.Cond.methodLinkNest "WeatherDisguise$Acts" (40 : Nat) ({ cls := "WeatherDisguise", name := "isWithin", desc := "(III)Z" } : Jvm.MethodName) "WeatherDisguise")]
def stL : List (String × String × List Int32) := [(RX5, "LAW_AT_FIRST", [3, 6, 2, 20]), (RX5, "LAW_LEAST", [1, 0, 0, 0]), (RX5, "LAW_MOST", [9, 99, 9, 99]), (RX0, "BODY_OF", [10, 11, 12, 13, 10, 20, 12, 13, 30, 11, 12, 31, 51, 20, 50, 13, 40, 41, 12, 31, 10, 11, 61, 60])]
def strL : List (Nat × String) := [(40, "wet"), (49, "wind"), (59, "turn"), (64, "damp"), (66, "shy"), (68, "gust"), (76, "air"), (81, "rain"), (83, "fog"), (85, "drizzle"), (87, "mist"), (89, "heat"), (97, "at"), (103, "force"), (105, "errand"), (111, "is")]
def strLen : List Nat := [3, 4, 4, 4, 3, 4, 3, 4, 3, 7, 4, 4, 2, 5, 6, 2]
def strByt : List (List Int32) := [[119, 101, 116], [119, 105, 110, 100], [116, 117, 114, 110], [100, 97, 109, 112], [115, 104, 121], [103, 117, 115, 116], [97, 105, 114], [114, 97, 105, 110], [102, 111, 103], [100, 114, 105, 122, 122, 108, 101], [109, 105, 115, 116], [104, 101, 97, 116], [97, 116], [102, 111, 114, 99, 101], [101, 114, 114, 97, 110, 100], [105, 115]]
theorem nestW_form : ∀ w ∈ nestW, (∃ a i x h, w = .methodLinkNest a i x h) ∨ (∃ a i b n d h, w = .fieldLinkNest a i b n d h) := by
  intro w hw
  simp only [nestW, List.mem_cons, List.not_mem_nil, or_false] at hw
  rcases hw with rfl | rfl | rfl | rfl | rfl | rfl | rfl | rfl | rfl | rfl | rfl | rfl | rfl | rfl | rfl <;> first | exact Or.inl ⟨_, _, _, _, rfl⟩ | exact Or.inr ⟨_, _, _, _, _, _, rfl⟩
def EV (ad : Nat → Nat) (A : Nat → Prop) (U : State) (H : Heap) : Prop :=
  (∀ w ∈ nestW, va_Nw w U) ∧
  (∀ (i : Nat) (q : String × String × List Int32), stL[i]? = some q → va_Z q.1 q.2.1 "[I" (.ref (ad (100 + i))) A U H ∧ va_T .int (ad (100 + i)) q.2.2.length (fun j => .int (q.2.2.getD j 0)) A U H) ∧
  va_Z "java/lang/String" "COMPACT_STRINGS" "Z" (.int 1) A U H ∧
  va_Zq "jdk/internal/util/Preconditions" "SIOOBE_FORMATTER" "Ljava/util/function/BiFunction;" A U H ∧
  vk_S 16 strLen strByt (fun i => ad (200 + i)) (fun i => ad (300 + i)) A U H ∧
  (∀ (i : Nat) (q : Nat × String), strL[i]? = some q → vk_R RX3 q.1 q.2 (ad (200 + i)) U)
theorem va_Zq.narrow' {C n d : String} {A B : Nat → Prop} {U : State} {H : Heap} (h : va_Zq C n d A U H) (hAB : ∀ q, B q → A q) : va_Zq C n d B U H := by
  rcases h with h | ⟨t, h⟩
  · exact Or.inl (va_Z.narrow h hAB)
  · exact Or.inr ⟨t, va_Z.narrow h hAB⟩
theorem EV.pass {ad : Nat → Nat} {A A' : Nat → Prop} {s U : State} {H : Heap} {locs : List Loc} (h : EV ad A s s.heap) (hS : va_S A s.heap H locs) (hU : U.heap = H) (hW : s.WarmedH U.vm) (hAB : ∀ q, A' q → A q) : EV ad A' U U.heap := by
  obtain ⟨h1, h2, h3, h4, h5, h6⟩ := h
  rw [hU]
  refine ⟨fun w hw => ?_, fun i q hq => ?_, ?_, ?_, ?_, fun i q hq => ?_⟩
  · rcases nestW_form w hw with ⟨a, i, x, hh, rfl⟩ | ⟨a, i, b, n, d, hh, rfl⟩
    · exact va_Nw.warmM hW (h1 _ hw)
    · exact va_Nw.warmF hW (h1 _ hw)
  · obtain ⟨g1, g2⟩ := h2 i q hq
    exact ⟨va_Z.narrow (va_Z.moved hW.alike (va_Z.kept g1 hS.2.1)) hAB, va_T.narrow (va_T.moved hW.alike (va_T.kept g2 hS.2.1)) hAB⟩
  · exact va_Z.narrow (va_Z.moved hW.alike (va_Z.kept h3 hS.2.1)) hAB
  · exact va_Zq.narrow' (va_Zq.moved hW.alike (va_Zq.kept h4 hS.2.1)) hAB
  · exact vk_S.narrow (vk_S.moved hW.alike (vk_S.kept h5 hS.2.1)) hAB
  · exact vk_R.warm hW (h6 i q hq)
theorem EV.same {ad : Nat → Nat} {A : Nat → Prop} {u U : State} (hv : u.vm = U.vm) (hh : U.heap = u.heap) (h : EV ad A u u.heap) : EV ad A U U.heap := by
  obtain ⟨h1, h2, h3, h4, h5, h6⟩ := h
  have al : u.vm.Alike U.vm := by rw [hv]; exact Vm.Alike.refl _
  rw [hh]
  refine ⟨fun w hw => ?_, fun i q hq => ?_, ?_, ?_, ?_, fun i q hq => ?_⟩
  · rcases nestW_form w hw with ⟨a, i, x, hh, rfl⟩ | ⟨a, i, b, n, d, hh, rfl⟩
    · exact va_Nw.same rfl hv (h1 _ hw)
    · exact va_Nw.same rfl hv (h1 _ hw)
  · exact ⟨va_Z.moved al (h2 i q hq).1, va_T.moved al (h2 i q hq).2⟩
  · exact va_Z.moved al h3
  · exact va_Zq.moved al h4
  · exact vk_S.moved al h5
  · exact vk_R.same hv.symm (h6 i q hq)
/-! contexts: where a method runs -/
abbrev Cx : Type := Program × Launch × Env × Room × State × MethodId × Array Value × List Frame × Method × Code × (Nat → Prop) × va_G × (Nat → ClassId) × (Nat → Nat) × Nat × Nat × (State → Prop)
/-- from this abstract state the machine comes to the end that the context names -/
def AW : Cx → Nat → Nat → List (Nat × Value) → List Value → Mem → Prop
  | (p, l, e, R, s, m, args, below, meth, c, A, D, tt, ad, mc, ms, Qf), nL, pc, lv, st, M =>
    ∀ (H : Heap) (locs : List Loc) (ls : Array Slot), va_P D classes (cW ad tt M) H → va_D A (cW ad tt M) → va_S A s.heap H locs → lv_has ls nL (cL ad lv) → W p l e R s m args below meth c H locs mc ms Qf (F0 m pc ls (st.map (cv ad)))
def cxOK (t : MT) (d : Nat) : Cx → Prop
  | (p, l, e, R, s, m, args, below, meth, c, A, D, tt, ad, mc, ms, Qf) =>
    p.tables.exec = Jvm.exec ∧ c.code = t.2.2.1 ∧ c.maxLocals = t.2.2.2.1 ∧ s.vm.findClass t.1 = some m.cls ∧ (∀ w ∈ GW, w.before args s = true) ∧ va_K D classes (tysT tt) s ∧ (∀ q, s.heap.size ≤ q → A q) ∧ EV ad A s s.heap ∧ (d ≤ R.frames ∧ 64 * d ≤ R.locals ∧ mc ≤ R.cells ∧ ms ≤ R.slots)
def Bs (F : Cx → Prop) (t : MT) (d : Nat) : Prop := ∀ x, F x → cxOK t d x
def AWP (F : Cx → Prop) (t : MT) (pc : Nat) (lv : List (Nat × Value)) (st : List Value) (M : Mem) : Prop := ∀ x, F x → AW x t.2.2.2.1 pc lv st M
/-! contracts -/
def PreB (D : va_G) (tt : Nat → ClassId) (ad : Nat → Nat) (sz : Nat) (M : Mem) : State → Prop := fun U => U.heap.size = sz ∧ va_P D classes (cW ad tt M) U.heap ∧ va_K D classes (tysT tt) U ∧ va_D (fun _ => True) (cW ad tt M) ∧ EV ad (va_A (cW ad tt M) sz) U U.heap
def PostB (D : va_G) (tt : Nat → ClassId) (ad : Nat → Nat) (sz : Nat) (M : Mem) (res : Option Value × Mem) : Array Value → State → Outcome → State → Prop := fun _ st oc t =>
  (oc = .returned (res.1.map (cv ad)) ∧ va_P D classes (cW ad tt res.2) t.heap ∧ va_K D classes (tysT tt) t ∧ va_D (va_A (cW ad tt M) sz) (cW ad tt res.2)) ∧ va_F (va_A (cW ad tt M) sz) st t
def rmD (d : Nat) : Room := { frames := d, cells := 0, slots := 0, locals := 64 * d }
/-- the contract: with these arguments, in this memory, the method comes back with this -/
def CT (t : MT) (d : Nat) (as : List Value) (M : Mem) (res : Option Value × Mem) : Prop :=
  ∀ (l : Launch) (D : va_G) (tt : Nat → ClassId) (ad : Nat → Nat) (sz : Nat), Met l t.2.1 (wsM t) (rmD d) (va_Pc (as.map (cv ad)) (PreB D tt ad sz M)) (PostB D tt ad sz M res) 0 0 (va_A (cW ad tt M) sz)
/-- the contexts of a method that is to come back with res -/
def MF (t : MT) (d : Nat) (M0 : Mem) (res : Option Value × Mem) : Cx → Prop
  | (p, l, e, R, s, m, args, below, meth, c, A, D, tt, ad, mc, ms, Qf) =>
    cxOK t d (p, l, e, R, s, m, args, below, meth, c, A, D, tt, ad, mc, ms, Qf) ∧ meth.sig.returnType = t.2.2.2.2 ∧ meth.locks = false ∧ A = va_A (cW ad tt M0) s.heap.size ∧ mc = 0 ∧ ms = 0 ∧ Qf = MQ below (PostB D tt ad s.heap.size M0 res) args s 0 0 A
theorem MF.bs {t : MT} {d : Nat} {M0 : Mem} {res : Option Value × Mem} : Bs (MF t d M0 res) t d := by
  rintro ⟨p, l, e, R, s, m, args, below, meth, c, A, D, tt, ad, mc, ms, Qf⟩ hX
  exact hX.1
theorem lv_args_map (ad : Nat → Nat) : ∀ (as : List Value) (i : Nat), lv_args i (as.map (cv ad)) = cL ad (lv_args i as)
  | [], _ => rfl
  | v :: as, i => by
    show (i, cv ad v) :: lv_args (if (cv ad v).category = 2 then i + 2 else i + 1) (as.map (cv ad)) = _
    rw [cv_cat, lv_args_map ad as]
    rfl
theorem lg_sl_map (ad : Nat → Nat) (as : List Value) : (lg_sl (as.map (cv ad))).length = (lg_sl as).length := by
  induction as with
  | nil => rfl
  | cons v as ih =>
    have e : ∀ (v : Value) (r : List Value), (lg_sl (v :: r)).length = (if v.category = 2 then 2 else 1) + (lg_sl r).length := by
      intro v r
      by_cases hc : v.category = 2 <;> simp [lg_sl, hc] <;> omega
    rw [List.map_cons, e, e, cv_cat, ih]
theorem CT.of {t : MT} {d : Nat} {as : List Value} {M0 : Mem} {res : Option Value × Mem} (hy : plainName t.2.1.cls = true) (hcl : t.2.1.cls = t.1) (hsl : (lg_sl as).length ≤ t.2.2.2.1) (h : AWP (MF t d M0 res) t 0 (lv_args 0 as) [] M0) : CT t d as M0 res := by
  intro l D tt ad sz
  refine Met.ofW (cc := t.2.2.1) (maxL := t.2.2.2.1) (ret := t.2.2.2.2) (ws' := GW) hy rfl ?_
  intro p e s m args below meth c s₁ B hml hv
  obtain ⟨rfl, hsz, hP, hK, hD0, hE⟩ := hv
  subst hsz
  have hts : ∀ w ∈ wsM t, w.before (as.map (cv ad)).toArray s = true := atoms_spec (ws := wsM t) B.pre
  have hl := lv_entry (as.map (cv ad)) (n := t.2.2.2.1) (by rw [lg_sl_map]; exact hsl)
  rw [lg_entry_eq]
  generalize (lg_sl (as.map (cv ad)) ++ List.replicate (t.2.2.2.1 - (lg_sl (as.map (cv ad))).length) Slot.unset).toArray = ls at hl ⊢
  rw [lv_args_map] at hl
  have hown : s.vm.findClass t.1 = some m.cls := by rw [← hcl]; exact findClass_of_methodNamed B.named
  exact h (p, l, e, (headSpec (wsM t) (rmD d)).room, s, m, (as.map (cv ad)).toArray, below, meth, c, va_A (cW ad tt M0) s.heap.size, D, tt, ad, 0, 0, _) ⟨⟨B.exec, B.bytes, hml, hown, fun w hw => hts w (List.mem_cons_of_mem _ hw), hK, fun q hq => Or.inr hq, hE, Nat.le_refl _, Nat.le_refl _, Nat.zero_le _, Nat.zero_le _⟩, B.returns, B.notSynchronized, rfl, rfl, rfl, rfl⟩ s.heap [] ls hP hD0.self va_S.rf hl
end
section
/-! ROWS of the abstract machine -/
theorem cL_at {ad : Nat → Nat} {lv : List (Nat × Value)} {k i : Nat} {v : Value} (h : lv[k]? = some (i, v)) : (cL ad lv)[k]? = some (i, cv ad v) := by
  simp [cL, h]
theorem cL_st {ad : Nat → Nat} {lv lv' : List (Nat × Value)} {i : Nat} {v : Value} (h : (i, v) :: lv.filter (fun q => !(q.1 == i) && !(q.1 + 1 == i && q.2.category == 2)) = lv') : (i, cv ad v) :: (cL ad lv).filter (fun q => !(q.1 == i) && !(q.1 + 1 == i && q.2.category == 2)) = cL ad lv' := by
  rw [← h]
  simp only [cL, List.map_cons, List.filter_map]
  congr 2
  apply List.filter_congr
  intro q _
  simp [Function.comp, cv_cat]
theorem cL_st2 {ad : Nat → Nat} {lv lv' : List (Nat × Value)} {i : Nat} {v : Value} (h : (i, v) :: lv.filter (fun q => !(q.1 == i) && (!(q.1 == i + 1) && !(q.1 + 1 == i && q.2.category == 2))) = lv') : (i, cv ad v) :: (cL ad lv).filter (fun q => !(q.1 == i) && (!(q.1 == i + 1) && !(q.1 + 1 == i && q.2.category == 2))) = cL ad lv' := by
  rw [← h]
  simp only [cL, List.map_cons, List.filter_map]
  congr 2
  apply List.filter_congr
  intro q _
  simp [Function.comp, cv_cat]
def irem (x y : Int32) : Int32 := x - x / y * y
def lrem (x y : Int64) : Int64 := x - x / y * y
def b2i (b : Bool) : Int32 := if b = true then 1 else 0
theorem b2i_0 {b : Bool} (h : ¬ b = true) : b2i b = 0 := by simp [b2i, h]
theorem b2i_1 {b : Bool} (h : b = true) : ¬ b2i b = 0 := by simp [b2i, h]
theorem b2i_nar (b : Bool) : narrow .boolean (.int (b2i b)) = .int (b2i b) := by cases b <;> rfl
section ROWS
variable {F : Cx → Prop} {t : MT} {d pc : Nat} {lv : List (Nat × Value)} {st : List Value} {M : Mem}
theorem r_sub (lv' : List (Nat × Value)) (ks : List Nat) (h : lv_pick lv ks = lv') (k : AWP F t pc lv' st M) : AWP F t pc lv st M := by
  rintro ⟨p, l, e, R, s, m, args, below, meth, c, A, D, tt, ad, mc, ms, Qf⟩ hX H locs ls hP hD hS hl
  refine k _ hX H locs ls hP hD hS (lv_sub hl ks ?_)
  rw [← h]
  clear h
  simp only [lv_pick, cL]
  induction ks with
  | nil => rfl
  | cons a ks ih =>
    simp only [List.filterMap_cons]
    cases hk : lv[a]? with
    | none => simpa [hk] using ih
    | some q => simpa [hk] using ih
theorem r_iconst (hF : Bs F t d) {n : Int} {v : Int32} (hd : decode t.2.2.1 pc = .ok (.iconst n, 1)) (hv : Int32.ofInt n = v) (k : AWP F t (pc + 1) lv (.int v :: st) M) : AWP F t pc lv st M := by
  rintro ⟨p, l, e, R, s, m, args, below, meth, c, A, D, tt, ad, mc, ms, Qf⟩ hX H locs ls hP hD hS hl
  obtain ⟨hx, hb, hml, hown, hts, hK, hA, hE, hroom⟩ := hF _ hX
  exact lv_iconst hx hb hd hv (k _ hX H locs ls hP hD hS hl)
theorem r_bipush (hF : Bs F t d) {n : Int} {v : Int32} (hd : decode t.2.2.1 pc = .ok (.bipush n, 2)) (hv : (Int8.ofInt n).toInt32 = v) (k : AWP F t (pc + 2) lv (.int v :: st) M) : AWP F t pc lv st M := by
  rintro ⟨p, l, e, R, s, m, args, below, meth, c, A, D, tt, ad, mc, ms, Qf⟩ hX H locs ls hP hD hS hl
  obtain ⟨hx, hb, hml, hown, hts, hK, hA, hE, hroom⟩ := hF _ hX
  exact lv_bipush hx hb hd hv (k _ hX H locs ls hP hD hS hl)
theorem r_sipush (hF : Bs F t d) {n : Int} {v : Int32} (hd : decode t.2.2.1 pc = .ok (.sipush n, 3)) (hv : (Int16.ofInt n).toInt32 = v) (k : AWP F t (pc + 3) lv (.int v :: st) M) : AWP F t pc lv st M := by
  rintro ⟨p, l, e, R, s, m, args, below, meth, c, A, D, tt, ad, mc, ms, Qf⟩ hX H locs ls hP hD hS hl
  obtain ⟨hx, hb, hml, hown, hts, hK, hA, hE, hroom⟩ := hF _ hX
  exact lv_sipush hx hb hd hv (k _ hX H locs ls hP hD hS hl)
theorem r_lconst (hF : Bs F t d) {n : Fin 2} {v : Int64} (hd : decode t.2.2.1 pc = .ok (.lconst n, 1)) (hv : Int64.ofNat (n : Nat) = v) (k : AWP F t (pc + 1) lv (.long v :: st) M) : AWP F t pc lv st M := by
  rintro ⟨p, l, e, R, s, m, args, below, meth, c, A, D, tt, ad, mc, ms, Qf⟩ hX H locs ls hP hD hS hl
  obtain ⟨hx, hb, hml, hown, hts, hK, hA, hE, hroom⟩ := hF _ hX
  exact lv_lconst hx hb hd hv (k _ hX H locs ls hP hD hS hl)
theorem r_ldc (hF : Bs F t d) {i : Nat} {v : Int32} (hd : decode t.2.2.1 pc = .ok (.ldc i, 2)) (hw : Jvm.Cond.constant t.1 i v ∈ GW) (k : AWP F t (pc + 2) lv (.int v :: st) M) : AWP F t pc lv st M := by
  rintro ⟨p, l, e, R, s, m, args, below, meth, c, A, D, tt, ad, mc, ms, Qf⟩ hX H locs ls hP hD hS hl
  obtain ⟨hx, hb, hml, hown, hts, hK, hA, hE, hroom⟩ := hF _ hX
  exact lv_ldc hx hb hown (hts _ hw) hd (k _ hX H locs ls hP hD hS hl)
theorem r_ldcw (hF : Bs F t d) {i : Nat} {v : Int32} (hd : decode t.2.2.1 pc = .ok (.ldc_w i, 3)) (hw : Jvm.Cond.constant t.1 i v ∈ GW) (k : AWP F t (pc + 3) lv (.int v :: st) M) : AWP F t pc lv st M := by
  rintro ⟨p, l, e, R, s, m, args, below, meth, c, A, D, tt, ad, mc, ms, Qf⟩ hX H locs ls hP hD hS hl
  obtain ⟨hx, hb, hml, hown, hts, hK, hA, hE, hroom⟩ := hF _ hX
  exact lv_ldcw hx hb hown (hts _ hw) hd (k _ hX H locs ls hP hD hS hl)
theorem r_ldc2 (hF : Bs F t d) {i : Nat} {v : Int64} (hd : decode t.2.2.1 pc = .ok (.ldc2_w i, 3)) (hw : Jvm.Cond.constantLong t.1 i v ∈ GW) (k : AWP F t (pc + 3) lv (.long v :: st) M) : AWP F t pc lv st M := by
  rintro ⟨p, l, e, R, s, m, args, below, meth, c, A, D, tt, ad, mc, ms, Qf⟩ hX H locs ls hP hD hS hl
  obtain ⟨hx, hb, hml, hown, hts, hK, hA, hE, hroom⟩ := hF _ hX
  exact lv_ldc2 hx hb hown (hts _ hw) hd (k _ hX H locs ls hP hD hS hl)
theorem r_iload_n (hF : Bs F t d) {q : Fin 4} {i : Nat} {x : Int32} (hd : decode t.2.2.1 pc = .ok (.iload_n q, 1)) (hi : (q : Nat) = i) (j : Nat) (hl0 : lv[j]? = some (i, .int x)) (k : AWP F t (pc + 1) lv (.int x :: st) M) : AWP F t pc lv st M := by
  rintro ⟨p, l, e, R, s, m, args, below, meth, c, A, D, tt, ad, mc, ms, Qf⟩ hX H locs ls hP hD hS hl
  obtain ⟨hx, hb, hml, hown, hts, hK, hA, hE, hroom⟩ := hF _ hX
  exact lv_iload_n hx hb hd hi (lv_at hl j (cL_at hl0)) (k _ hX H locs ls hP hD hS hl)
theorem r_iload (hF : Bs F t d) {i : Nat} {x : Int32} (hd : decode t.2.2.1 pc = .ok (.iload i, 2)) (j : Nat) (hl0 : lv[j]? = some (i, .int x)) (k : AWP F t (pc + 2) lv (.int x :: st) M) : AWP F t pc lv st M := by
  rintro ⟨p, l, e, R, s, m, args, below, meth, c, A, D, tt, ad, mc, ms, Qf⟩ hX H locs ls hP hD hS hl
  obtain ⟨hx, hb, hml, hown, hts, hK, hA, hE, hroom⟩ := hF _ hX
  exact lv_iload hx hb hd (lv_at hl j (cL_at hl0)) (k _ hX H locs ls hP hD hS hl)
theorem r_lload_n (hF : Bs F t d) {q : Fin 4} {i : Nat} {x : Int64} (hd : decode t.2.2.1 pc = .ok (.lload_n q, 1)) (hi : (q : Nat) = i) (j : Nat) (hl0 : lv[j]? = some (i, .long x)) (k : AWP F t (pc + 1) lv (.long x :: st) M) : AWP F t pc lv st M := by
  rintro ⟨p, l, e, R, s, m, args, below, meth, c, A, D, tt, ad, mc, ms, Qf⟩ hX H locs ls hP hD hS hl
  obtain ⟨hx, hb, hml, hown, hts, hK, hA, hE, hroom⟩ := hF _ hX
  exact lv_lload_n hx hb hd hi (lv_at hl j (cL_at hl0)) (k _ hX H locs ls hP hD hS hl)
theorem r_lload (hF : Bs F t d) {i : Nat} {x : Int64} (hd : decode t.2.2.1 pc = .ok (.lload i, 2)) (j : Nat) (hl0 : lv[j]? = some (i, .long x)) (k : AWP F t (pc + 2) lv (.long x :: st) M) : AWP F t pc lv st M := by
  rintro ⟨p, l, e, R, s, m, args, below, meth, c, A, D, tt, ad, mc, ms, Qf⟩ hX H locs ls hP hD hS hl
  obtain ⟨hx, hb, hml, hown, hts, hK, hA, hE, hroom⟩ := hF _ hX
  exact lv_lload hx hb hd (lv_at hl j (cL_at hl0)) (k _ hX H locs ls hP hD hS hl)
theorem r_aload_n (hF : Bs F t d) {q : Fin 4} {i x : Nat} (hd : decode t.2.2.1 pc = .ok (.aload_n q, 1)) (hi : (q : Nat) = i) (j : Nat) (hl0 : lv[j]? = some (i, .ref x)) (k : AWP F t (pc + 1) lv (.ref x :: st) M) : AWP F t pc lv st M := by
  rintro ⟨p, l, e, R, s, m, args, below, meth, c, A, D, tt, ad, mc, ms, Qf⟩ hX H locs ls hP hD hS hl
  obtain ⟨hx, hb, hml, hown, hts, hK, hA, hE, hroom⟩ := hF _ hX
  exact lv_aload_n hx hb hd hi (lv_at hl j (cL_at hl0)) (k _ hX H locs ls hP hD hS hl)
theorem r_aload (hF : Bs F t d) {i x : Nat} (hd : decode t.2.2.1 pc = .ok (.aload i, 2)) (j : Nat) (hl0 : lv[j]? = some (i, .ref x)) (k : AWP F t (pc + 2) lv (.ref x :: st) M) : AWP F t pc lv st M := by
  rintro ⟨p, l, e, R, s, m, args, below, meth, c, A, D, tt, ad, mc, ms, Qf⟩ hX H locs ls hP hD hS hl
  obtain ⟨hx, hb, hml, hown, hts, hK, hA, hE, hroom⟩ := hF _ hX
  exact lv_aload hx hb hd (lv_at hl j (cL_at hl0)) (k _ hX H locs ls hP hD hS hl)
theorem r_aload_nN (hF : Bs F t d) {q : Fin 4} {i : Nat} (hd : decode t.2.2.1 pc = .ok (.aload_n q, 1)) (hi : (q : Nat) = i) (j : Nat) (hl0 : lv[j]? = some (i, .null)) (k : AWP F t (pc + 1) lv (.null :: st) M) : AWP F t pc lv st M := by
  rintro ⟨p, l, e, R, s, m, args, below, meth, c, A, D, tt, ad, mc, ms, Qf⟩ hX H locs ls hP hD hS hl
  obtain ⟨hx, hb, hml, hown, hts, hK, hA, hE, hroom⟩ := hF _ hX
  exact lv_aload_nN hx hb hd hi (lv_at hl j (cL_at hl0)) (k _ hX H locs ls hP hD hS hl)
theorem r_aloadN (hF : Bs F t d) {i : Nat} (hd : decode t.2.2.1 pc = .ok (.aload i, 2)) (j : Nat) (hl0 : lv[j]? = some (i, .null)) (k : AWP F t (pc + 2) lv (.null :: st) M) : AWP F t pc lv st M := by
  rintro ⟨p, l, e, R, s, m, args, below, meth, c, A, D, tt, ad, mc, ms, Qf⟩ hX H locs ls hP hD hS hl
  obtain ⟨hx, hb, hml, hown, hts, hK, hA, hE, hroom⟩ := hF _ hX
  exact lv_aloadN hx hb hd (lv_at hl j (cL_at hl0)) (k _ hX H locs ls hP hD hS hl)
theorem r_istore_n (hF : Bs F t d) {q : Fin 4} {i : Nat} {x : Int32} {lv' : List (Nat × Value)} (hd : decode t.2.2.1 pc = .ok (.istore_n q, 1)) (hi : (q : Nat) = i) (hn : i < t.2.2.2.1) (hl0 : (i, Value.int x) :: lv.filter (fun q => !(q.1 == i) && !(q.1 + 1 == i && q.2.category == 2)) = lv') (k : AWP F t (pc + 1) lv' st M) : AWP F t pc lv (.int x :: st) M := by
  rintro ⟨p, l, e, R, s, m, args, below, meth, c, A, D, tt, ad, mc, ms, Qf⟩ hX H locs ls hP hD hS hl
  obtain ⟨hx, hb, hml, hown, hts, hK, hA, hE, hroom⟩ := hF _ hX
  exact lv_istore_n hx hb hd hi hl hn (cL_st hl0) (fun ls hl => k _ hX H locs ls hP hD hS hl)
theorem r_istore (hF : Bs F t d) {i : Nat} {x : Int32} {lv' : List (Nat × Value)} (hd : decode t.2.2.1 pc = .ok (.istore i, 2)) (hn : i < t.2.2.2.1) (hl0 : (i, Value.int x) :: lv.filter (fun q => !(q.1 == i) && !(q.1 + 1 == i && q.2.category == 2)) = lv') (k : AWP F t (pc + 2) lv' st M) : AWP F t pc lv (.int x :: st) M := by
  rintro ⟨p, l, e, R, s, m, args, below, meth, c, A, D, tt, ad, mc, ms, Qf⟩ hX H locs ls hP hD hS hl
  obtain ⟨hx, hb, hml, hown, hts, hK, hA, hE, hroom⟩ := hF _ hX
  exact lv_istore hx hb hd hl hn (cL_st hl0) (fun ls hl => k _ hX H locs ls hP hD hS hl)
theorem r_lstore_n (hF : Bs F t d) {q : Fin 4} {i : Nat} {x : Int64} {lv' : List (Nat × Value)} (hd : decode t.2.2.1 pc = .ok (.lstore_n q, 1)) (hi : (q : Nat) = i) (hn : i + 1 < t.2.2.2.1) (hl0 : (i, Value.long x) :: lv.filter (fun q => !(q.1 == i) && (!(q.1 == i + 1) && !(q.1 + 1 == i && q.2.category == 2))) = lv') (k : AWP F t (pc + 1) lv' st M) : AWP F t pc lv (.long x :: st) M := by
  rintro ⟨p, l, e, R, s, m, args, below, meth, c, A, D, tt, ad, mc, ms, Qf⟩ hX H locs ls hP hD hS hl
  obtain ⟨hx, hb, hml, hown, hts, hK, hA, hE, hroom⟩ := hF _ hX
  exact lv_lstore_n hx hb hd hi hl hn (cL_st2 hl0) (fun ls hl => k _ hX H locs ls hP hD hS hl)
theorem r_lstore (hF : Bs F t d) {i : Nat} {x : Int64} {lv' : List (Nat × Value)} (hd : decode t.2.2.1 pc = .ok (.lstore i, 2)) (hn : i + 1 < t.2.2.2.1) (hl0 : (i, Value.long x) :: lv.filter (fun q => !(q.1 == i) && (!(q.1 == i + 1) && !(q.1 + 1 == i && q.2.category == 2))) = lv') (k : AWP F t (pc + 2) lv' st M) : AWP F t pc lv (.long x :: st) M := by
  rintro ⟨p, l, e, R, s, m, args, below, meth, c, A, D, tt, ad, mc, ms, Qf⟩ hX H locs ls hP hD hS hl
  obtain ⟨hx, hb, hml, hown, hts, hK, hA, hE, hroom⟩ := hF _ hX
  exact lv_lstore hx hb hd hl hn (cL_st2 hl0) (fun ls hl => k _ hX H locs ls hP hD hS hl)
theorem r_astore_n (hF : Bs F t d) {q : Fin 4} {i : Nat} {x : Nat} {lv' : List (Nat × Value)} (hd : decode t.2.2.1 pc = .ok (.astore_n q, 1)) (hi : (q : Nat) = i) (hn : i < t.2.2.2.1) (hl0 : (i, Value.ref x) :: lv.filter (fun q => !(q.1 == i) && !(q.1 + 1 == i && q.2.category == 2)) = lv') (k : AWP F t (pc + 1) lv' st M) : AWP F t pc lv (.ref x :: st) M := by
  rintro ⟨p, l, e, R, s, m, args, below, meth, c, A, D, tt, ad, mc, ms, Qf⟩ hX H locs ls hP hD hS hl
  obtain ⟨hx, hb, hml, hown, hts, hK, hA, hE, hroom⟩ := hF _ hX
  exact lv_astore_n hx hb hd hi hl hn (cL_st hl0) (fun ls hl => k _ hX H locs ls hP hD hS hl)
theorem r_astore (hF : Bs F t d) {i : Nat} {x : Nat} {lv' : List (Nat × Value)} (hd : decode t.2.2.1 pc = .ok (.astore i, 2)) (hn : i < t.2.2.2.1) (hl0 : (i, Value.ref x) :: lv.filter (fun q => !(q.1 == i) && !(q.1 + 1 == i && q.2.category == 2)) = lv') (k : AWP F t (pc + 2) lv' st M) : AWP F t pc lv (.ref x :: st) M := by
  rintro ⟨p, l, e, R, s, m, args, below, meth, c, A, D, tt, ad, mc, ms, Qf⟩ hX H locs ls hP hD hS hl
  obtain ⟨hx, hb, hml, hown, hts, hK, hA, hE, hroom⟩ := hF _ hX
  exact lv_astore hx hb hd hl hn (cL_st hl0) (fun ls hl => k _ hX H locs ls hP hD hS hl)
theorem r_iinc (hF : Bs F t d) {i : Nat} {n : Int} {x v : Int32} {lv' : List (Nat × Value)} (hd : decode t.2.2.1 pc = .ok (.iinc i n, 3)) (j : Nat) (hk : lv[j]? = some (i, .int x)) (hv : x + Int32.ofInt n = v) (hn : i < t.2.2.2.1) (hl0 : (i, Value.int v) :: lv.filter (fun q => !(q.1 == i) && !(q.1 + 1 == i && q.2.category == 2)) = lv') (k : AWP F t (pc + 3) lv' st M) : AWP F t pc lv st M := by
  rintro ⟨p, l, e, R, s, m, args, below, meth, c, A, D, tt, ad, mc, ms, Qf⟩ hX H locs ls hP hD hS hl
  obtain ⟨hx, hb, hml, hown, hts, hK, hA, hE, hroom⟩ := hF _ hX
  exact lv_iinc hx hb hd hl (k := j) (cL_at hk) hv hn (cL_st hl0) (fun ls hl => k _ hX H locs ls hP hD hS hl)
theorem r_iadd (hF : Bs F t d) {x y : Int32} (hd : decode t.2.2.1 pc = .ok (.iadd, 1)) (k : AWP F t (pc + 1) lv (.int (x + y) :: st) M) : AWP F t pc lv (.int y :: .int x :: st) M := by
  rintro ⟨p, l, e, R, s, m, args, below, meth, c, A, D, tt, ad, mc, ms, Qf⟩ hX H locs ls hP hD hS hl
  obtain ⟨hx, hb, hml, hown, hts, hK, hA, hE, hroom⟩ := hF _ hX
  exact lv_iadd hx hb hd (k _ hX H locs ls hP hD hS hl)
theorem r_isub (hF : Bs F t d) {x y : Int32} (hd : decode t.2.2.1 pc = .ok (.isub, 1)) (k : AWP F t (pc + 1) lv (.int (x - y) :: st) M) : AWP F t pc lv (.int y :: .int x :: st) M := by
  rintro ⟨p, l, e, R, s, m, args, below, meth, c, A, D, tt, ad, mc, ms, Qf⟩ hX H locs ls hP hD hS hl
  obtain ⟨hx, hb, hml, hown, hts, hK, hA, hE, hroom⟩ := hF _ hX
  exact lv_isub hx hb hd (k _ hX H locs ls hP hD hS hl)
theorem r_imul (hF : Bs F t d) {x y : Int32} (hd : decode t.2.2.1 pc = .ok (.imul, 1)) (k : AWP F t (pc + 1) lv (.int (x * y) :: st) M) : AWP F t pc lv (.int y :: .int x :: st) M := by
  rintro ⟨p, l, e, R, s, m, args, below, meth, c, A, D, tt, ad, mc, ms, Qf⟩ hX H locs ls hP hD hS hl
  obtain ⟨hx, hb, hml, hown, hts, hK, hA, hE, hroom⟩ := hF _ hX
  exact lv_imul hx hb hd (k _ hX H locs ls hP hD hS hl)
theorem r_iand (hF : Bs F t d) {x y : Int32} (hd : decode t.2.2.1 pc = .ok (.iand, 1)) (k : AWP F t (pc + 1) lv (.int (x &&& y) :: st) M) : AWP F t pc lv (.int y :: .int x :: st) M := by
  rintro ⟨p, l, e, R, s, m, args, below, meth, c, A, D, tt, ad, mc, ms, Qf⟩ hX H locs ls hP hD hS hl
  obtain ⟨hx, hb, hml, hown, hts, hK, hA, hE, hroom⟩ := hF _ hX
  exact lv_iand hx hb hd (k _ hX H locs ls hP hD hS hl)
theorem r_ior (hF : Bs F t d) {x y : Int32} (hd : decode t.2.2.1 pc = .ok (.ior, 1)) (k : AWP F t (pc + 1) lv (.int (x ||| y) :: st) M) : AWP F t pc lv (.int y :: .int x :: st) M := by
  rintro ⟨p, l, e, R, s, m, args, below, meth, c, A, D, tt, ad, mc, ms, Qf⟩ hX H locs ls hP hD hS hl
  obtain ⟨hx, hb, hml, hown, hts, hK, hA, hE, hroom⟩ := hF _ hX
  exact lv_ior hx hb hd (k _ hX H locs ls hP hD hS hl)
theorem r_ixor (hF : Bs F t d) {x y : Int32} (hd : decode t.2.2.1 pc = .ok (.ixor, 1)) (k : AWP F t (pc + 1) lv (.int (x ^^^ y) :: st) M) : AWP F t pc lv (.int y :: .int x :: st) M := by
  rintro ⟨p, l, e, R, s, m, args, below, meth, c, A, D, tt, ad, mc, ms, Qf⟩ hX H locs ls hP hD hS hl
  obtain ⟨hx, hb, hml, hown, hts, hK, hA, hE, hroom⟩ := hF _ hX
  exact lv_ixor hx hb hd (k _ hX H locs ls hP hD hS hl)
theorem r_ishl (hF : Bs F t d) {x y : Int32} (hd : decode t.2.2.1 pc = .ok (.ishl, 1)) (k : AWP F t (pc + 1) lv (.int (x <<< (y &&& 31)) :: st) M) : AWP F t pc lv (.int y :: .int x :: st) M := by
  rintro ⟨p, l, e, R, s, m, args, below, meth, c, A, D, tt, ad, mc, ms, Qf⟩ hX H locs ls hP hD hS hl
  obtain ⟨hx, hb, hml, hown, hts, hK, hA, hE, hroom⟩ := hF _ hX
  exact lv_ishl hx hb hd (k _ hX H locs ls hP hD hS hl)
theorem r_ishr (hF : Bs F t d) {x y : Int32} (hd : decode t.2.2.1 pc = .ok (.ishr, 1)) (k : AWP F t (pc + 1) lv (.int (x >>> (y &&& 31)) :: st) M) : AWP F t pc lv (.int y :: .int x :: st) M := by
  rintro ⟨p, l, e, R, s, m, args, below, meth, c, A, D, tt, ad, mc, ms, Qf⟩ hX H locs ls hP hD hS hl
  obtain ⟨hx, hb, hml, hown, hts, hK, hA, hE, hroom⟩ := hF _ hX
  exact lv_ishr hx hb hd (k _ hX H locs ls hP hD hS hl)
theorem r_idiv (hF : Bs F t d) {x y : Int32} (hd : decode t.2.2.1 pc = .ok (.idiv, 1)) (hne : ¬ y = 0) (k : AWP F t (pc + 1) lv (.int (x / y) :: st) M) : AWP F t pc lv (.int y :: .int x :: st) M := by
  rintro ⟨p, l, e, R, s, m, args, below, meth, c, A, D, tt, ad, mc, ms, Qf⟩ hX H locs ls hP hD hS hl
  obtain ⟨hx, hb, hml, hown, hts, hK, hA, hE, hroom⟩ := hF _ hX
  exact lv_idiv hx hb hd hne (k _ hX H locs ls hP hD hS hl)
theorem r_irem (hF : Bs F t d) {x y : Int32} (hd : decode t.2.2.1 pc = .ok (.irem, 1)) (hne : ¬ y = 0) (k : AWP F t (pc + 1) lv (.int (irem x y) :: st) M) : AWP F t pc lv (.int y :: .int x :: st) M := by
  rintro ⟨p, l, e, R, s, m, args, below, meth, c, A, D, tt, ad, mc, ms, Qf⟩ hX H locs ls hP hD hS hl
  obtain ⟨hx, hb, hml, hown, hts, hK, hA, hE, hroom⟩ := hF _ hX
  exact lv_irem hx hb hd hne (k _ hX H locs ls hP hD hS hl)
theorem r_ladd (hF : Bs F t d) {x y : Int64} (hd : decode t.2.2.1 pc = .ok (.ladd, 1)) (k : AWP F t (pc + 1) lv (.long (x + y) :: st) M) : AWP F t pc lv (.long y :: .long x :: st) M := by
  rintro ⟨p, l, e, R, s, m, args, below, meth, c, A, D, tt, ad, mc, ms, Qf⟩ hX H locs ls hP hD hS hl
  obtain ⟨hx, hb, hml, hown, hts, hK, hA, hE, hroom⟩ := hF _ hX
  exact lv_ladd hx hb hd (k _ hX H locs ls hP hD hS hl)
theorem r_lmul (hF : Bs F t d) {x y : Int64} (hd : decode t.2.2.1 pc = .ok (.lmul, 1)) (k : AWP F t (pc + 1) lv (.long (x * y) :: st) M) : AWP F t pc lv (.long y :: .long x :: st) M := by
  rintro ⟨p, l, e, R, s, m, args, below, meth, c, A, D, tt, ad, mc, ms, Qf⟩ hX H locs ls hP hD hS hl
  obtain ⟨hx, hb, hml, hown, hts, hK, hA, hE, hroom⟩ := hF _ hX
  exact lv_lmul hx hb hd (k _ hX H locs ls hP hD hS hl)
theorem r_land (hF : Bs F t d) {x y : Int64} (hd : decode t.2.2.1 pc = .ok (.land, 1)) (k : AWP F t (pc + 1) lv (.long (x &&& y) :: st) M) : AWP F t pc lv (.long y :: .long x :: st) M := by
  rintro ⟨p, l, e, R, s, m, args, below, meth, c, A, D, tt, ad, mc, ms, Qf⟩ hX H locs ls hP hD hS hl
  obtain ⟨hx, hb, hml, hown, hts, hK, hA, hE, hroom⟩ := hF _ hX
  exact lv_land hx hb hd (k _ hX H locs ls hP hD hS hl)
theorem r_lor (hF : Bs F t d) {x y : Int64} (hd : decode t.2.2.1 pc = .ok (.lor, 1)) (k : AWP F t (pc + 1) lv (.long (x ||| y) :: st) M) : AWP F t pc lv (.long y :: .long x :: st) M := by
  rintro ⟨p, l, e, R, s, m, args, below, meth, c, A, D, tt, ad, mc, ms, Qf⟩ hX H locs ls hP hD hS hl
  obtain ⟨hx, hb, hml, hown, hts, hK, hA, hE, hroom⟩ := hF _ hX
  exact lv_lor hx hb hd (k _ hX H locs ls hP hD hS hl)
theorem r_ldiv (hF : Bs F t d) {x y : Int64} (hd : decode t.2.2.1 pc = .ok (.ldiv, 1)) (hne : ¬ y = 0) (k : AWP F t (pc + 1) lv (.long (x / y) :: st) M) : AWP F t pc lv (.long y :: .long x :: st) M := by
  rintro ⟨p, l, e, R, s, m, args, below, meth, c, A, D, tt, ad, mc, ms, Qf⟩ hX H locs ls hP hD hS hl
  obtain ⟨hx, hb, hml, hown, hts, hK, hA, hE, hroom⟩ := hF _ hX
  exact lv_ldiv hx hb hd hne (k _ hX H locs ls hP hD hS hl)
theorem r_lrem (hF : Bs F t d) {x y : Int64} (hd : decode t.2.2.1 pc = .ok (.lrem, 1)) (hne : ¬ y = 0) (k : AWP F t (pc + 1) lv (.long (lrem x y) :: st) M) : AWP F t pc lv (.long y :: .long x :: st) M := by
  rintro ⟨p, l, e, R, s, m, args, below, meth, c, A, D, tt, ad, mc, ms, Qf⟩ hX H locs ls hP hD hS hl
  obtain ⟨hx, hb, hml, hown, hts, hK, hA, hE, hroom⟩ := hF _ hX
  exact lv_lrem hx hb hd hne (k _ hX H locs ls hP hD hS hl)
theorem r_ineg (hF : Bs F t d) {x : Int32} (hd : decode t.2.2.1 pc = .ok (.ineg, 1)) (k : AWP F t (pc + 1) lv (.int (-x) :: st) M) : AWP F t pc lv (.int x :: st) M := by
  rintro ⟨p, l, e, R, s, m, args, below, meth, c, A, D, tt, ad, mc, ms, Qf⟩ hX H locs ls hP hD hS hl
  obtain ⟨hx, hb, hml, hown, hts, hK, hA, hE, hroom⟩ := hF _ hX
  exact lv_ineg hx hb hd (k _ hX H locs ls hP hD hS hl)
theorem r_iushr (hF : Bs F t d) {x y : Int32} (hd : decode t.2.2.1 pc = .ok (.iushr, 1)) (k : AWP F t (pc + 1) lv (.int ((x.toUInt32 >>> (y.toUInt32 &&& Int32.toUInt32 31)).toInt32) :: st) M) : AWP F t pc lv (.int y :: .int x :: st) M := by
  rintro ⟨p, l, e, R, s, m, args, below, meth, c, A, D, tt, ad, mc, ms, Qf⟩ hX H locs ls hP hD hS hl
  obtain ⟨hx, hb, hml, hown, hts, hK, hA, hE, hroom⟩ := hF _ hX
  exact lv_iushr hx hb hd rfl (k _ hX H locs ls hP hD hS hl)
theorem r_lushr (hF : Bs F t d) {x : Int64} {y : Int32} (hd : decode t.2.2.1 pc = .ok (.lushr, 1)) (k : AWP F t (pc + 1) lv (.long ((x.toUInt64 >>> (y.toInt64.toUInt64 &&& Int64.toUInt64 63)).toInt64) :: st) M) : AWP F t pc lv (.int y :: .long x :: st) M := by
  rintro ⟨p, l, e, R, s, m, args, below, meth, c, A, D, tt, ad, mc, ms, Qf⟩ hX H locs ls hP hD hS hl
  obtain ⟨hx, hb, hml, hown, hts, hK, hA, hE, hroom⟩ := hF _ hX
  exact lv_lushr hx hb hd rfl (k _ hX H locs ls hP hD hS hl)
theorem r_lshl (hF : Bs F t d) {x : Int64} {y : Int32} (hd : decode t.2.2.1 pc = .ok (.lshl, 1)) (k : AWP F t (pc + 1) lv (.long (x <<< (y.toInt64 &&& 63)) :: st) M) : AWP F t pc lv (.int y :: .long x :: st) M := by
  rintro ⟨p, l, e, R, s, m, args, below, meth, c, A, D, tt, ad, mc, ms, Qf⟩ hX H locs ls hP hD hS hl
  obtain ⟨hx, hb, hml, hown, hts, hK, hA, hE, hroom⟩ := hF _ hX
  exact lv_lshl hx hb hd rfl (k _ hX H locs ls hP hD hS hl)
theorem r_lshr (hF : Bs F t d) {x : Int64} {y : Int32} (hd : decode t.2.2.1 pc = .ok (.lshr, 1)) (k : AWP F t (pc + 1) lv (.long (x >>> (y.toInt64 &&& 63)) :: st) M) : AWP F t pc lv (.int y :: .long x :: st) M := by
  rintro ⟨p, l, e, R, s, m, args, below, meth, c, A, D, tt, ad, mc, ms, Qf⟩ hX H locs ls hP hD hS hl
  obtain ⟨hx, hb, hml, hown, hts, hK, hA, hE, hroom⟩ := hF _ hX
  exact lv_lshr hx hb hd rfl (k _ hX H locs ls hP hD hS hl)
theorem r_i2l (hF : Bs F t d) {x : Int32} (hd : decode t.2.2.1 pc = .ok (.i2l, 1)) (k : AWP F t (pc + 1) lv (.long x.toInt64 :: st) M) : AWP F t pc lv (.int x :: st) M := by
  rintro ⟨p, l, e, R, s, m, args, below, meth, c, A, D, tt, ad, mc, ms, Qf⟩ hX H locs ls hP hD hS hl
  obtain ⟨hx, hb, hml, hown, hts, hK, hA, hE, hroom⟩ := hF _ hX
  exact lv_i2l hx hb hd rfl (k _ hX H locs ls hP hD hS hl)
theorem r_l2i (hF : Bs F t d) {x : Int64} (hd : decode t.2.2.1 pc = .ok (.l2i, 1)) (k : AWP F t (pc + 1) lv (.int x.toInt32 :: st) M) : AWP F t pc lv (.long x :: st) M := by
  rintro ⟨p, l, e, R, s, m, args, below, meth, c, A, D, tt, ad, mc, ms, Qf⟩ hX H locs ls hP hD hS hl
  obtain ⟨hx, hb, hml, hown, hts, hK, hA, hE, hroom⟩ := hF _ hX
  exact lv_l2i hx hb hd rfl (k _ hX H locs ls hP hD hS hl)
theorem r_i2b (hF : Bs F t d) {x : Int32} (hd : decode t.2.2.1 pc = .ok (.i2b, 1)) (k : AWP F t (pc + 1) lv (.int x.toInt8.toInt32 :: st) M) : AWP F t pc lv (.int x :: st) M := by
  rintro ⟨p, l, e, R, s, m, args, below, meth, c, A, D, tt, ad, mc, ms, Qf⟩ hX H locs ls hP hD hS hl
  obtain ⟨hx, hb, hml, hown, hts, hK, hA, hE, hroom⟩ := hF _ hX
  exact lv_i2b hx hb hd rfl (k _ hX H locs ls hP hD hS hl)
theorem r_i2s (hF : Bs F t d) {x : Int32} (hd : decode t.2.2.1 pc = .ok (.i2s, 1)) (k : AWP F t (pc + 1) lv (.int x.toInt16.toInt32 :: st) M) : AWP F t pc lv (.int x :: st) M := by
  rintro ⟨p, l, e, R, s, m, args, below, meth, c, A, D, tt, ad, mc, ms, Qf⟩ hX H locs ls hP hD hS hl
  obtain ⟨hx, hb, hml, hown, hts, hK, hA, hE, hroom⟩ := hF _ hX
  exact lv_i2s hx hb hd rfl (k _ hX H locs ls hP hD hS hl)
theorem r_i2c (hF : Bs F t d) {x : Int32} (hd : decode t.2.2.1 pc = .ok (.i2c, 1)) (k : AWP F t (pc + 1) lv (.int ((x.toUInt32 % 65536).toInt32) :: st) M) : AWP F t pc lv (.int x :: st) M := by
  rintro ⟨p, l, e, R, s, m, args, below, meth, c, A, D, tt, ad, mc, ms, Qf⟩ hX H locs ls hP hD hS hl
  obtain ⟨hx, hb, hml, hown, hts, hK, hA, hE, hroom⟩ := hF _ hX
  exact lv_i2c hx hb hd rfl (k _ hX H locs ls hP hD hS hl)
theorem r_dup (hF : Bs F t d) {v : Value} (hd : decode t.2.2.1 pc = .ok (.dup, 1)) (hv : v.category = 1) (k : AWP F t (pc + 1) lv (v :: v :: st) M) : AWP F t pc lv (v :: st) M := by
  rintro ⟨p, l, e, R, s, m, args, below, meth, c, A, D, tt, ad, mc, ms, Qf⟩ hX H locs ls hP hD hS hl
  obtain ⟨hx, hb, hml, hown, hts, hK, hA, hE, hroom⟩ := hF _ hX
  exact lv_dup hx hb hd (by rw [cv_cat]; exact hv) (k _ hX H locs ls hP hD hS hl)
theorem r_pop (hF : Bs F t d) {v : Value} (hd : decode t.2.2.1 pc = .ok (.pop, 1)) (hv : v.category = 1) (k : AWP F t (pc + 1) lv st M) : AWP F t pc lv (v :: st) M := by
  rintro ⟨p, l, e, R, s, m, args, below, meth, c, A, D, tt, ad, mc, ms, Qf⟩ hX H locs ls hP hD hS hl
  obtain ⟨hx, hb, hml, hown, hts, hK, hA, hE, hroom⟩ := hF _ hX
  exact lv_pop hx hb hd (by rw [cv_cat]; exact hv) (k _ hX H locs ls hP hD hS hl)
theorem r_dup2 (hF : Bs F t d) {v w : Value} (hd : decode t.2.2.1 pc = .ok (.dup2, 1)) (hv : v.category = 1) (hw : w.category = 1) (k : AWP F t (pc + 1) lv (v :: w :: v :: w :: st) M) : AWP F t pc lv (v :: w :: st) M := by
  rintro ⟨p, l, e, R, s, m, args, below, meth, c, A, D, tt, ad, mc, ms, Qf⟩ hX H locs ls hP hD hS hl
  obtain ⟨hx, hb, hml, hown, hts, hK, hA, hE, hroom⟩ := hF _ hX
  exact lv_dup2_11 hx hb hd (by rw [cv_cat]; exact hv) (by rw [cv_cat]; exact hw) (k _ hX H locs ls hP hD hS hl)
theorem r_lcmp (hF : Bs F t d) {x y : Int64} (hd : decode t.2.2.1 pc = .ok (.lcmp, 1)) (k : AWP F t (pc + 1) lv (.int (lg_cmp x y) :: st) M) : AWP F t pc lv (.long y :: .long x :: st) M := by
  rintro ⟨p, l, e, R, s, m, args, below, meth, c, A, D, tt, ad, mc, ms, Qf⟩ hX H locs ls hP hD hS hl
  obtain ⟨hx, hb, hml, hown, hts, hK, hA, hE, hroom⟩ := hF _ hX
  exact W.lcmp hx hb hd (k _ hX H locs ls hP hD hS hl)
theorem r_goto (hF : Bs F t d) {off : Int} {tgt : Nat} (hd : decode t.2.2.1 pc = .ok (.goto off, 3)) (ht : (pc : Int) + off = (tgt : Int)) (k : AWP F t tgt lv st M) : AWP F t pc lv st M := by
  rintro ⟨p, l, e, R, s, m, args, below, meth, c, A, D, tt, ad, mc, ms, Qf⟩ hX H locs ls hP hD hS hl
  obtain ⟨hx, hb, hml, hown, hts, hK, hA, hE, hroom⟩ := hF _ hX
  exact lv_goto hx hb hd ht (k _ hX H locs ls hP hD hS hl)
theorem r_null (hF : Bs F t d) (hd : decode t.2.2.1 pc = .ok (.aconst_null, 1)) (k : AWP F t (pc + 1) lv (.null :: st) M) : AWP F t pc lv st M := by
  rintro ⟨p, l, e, R, s, m, args, below, meth, c, A, D, tt, ad, mc, ms, Qf⟩ hX H locs ls hP hD hS hl
  obtain ⟨hx, hb, hml, hown, hts, hK, hA, hE, hroom⟩ := hF _ hX
  exact lv_null hx hb hd (k _ hX H locs ls hP hD hS hl)
theorem r_ifnull (hF : Bs F t d) {off : Int} {x : Nat} (hd : decode t.2.2.1 pc = .ok (.ifnull off, 3)) (k : AWP F t (pc + 3) lv st M) : AWP F t pc lv (.ref x :: st) M := by
  rintro ⟨p, l, e, R, s, m, args, below, meth, c, A, D, tt, ad, mc, ms, Qf⟩ hX H locs ls hP hD hS hl
  obtain ⟨hx, hb, hml, hown, hts, hK, hA, hE, hroom⟩ := hF _ hX
  exact lv_ifnull hx hb hd (k _ hX H locs ls hP hD hS hl)
theorem r_ifnullN (hF : Bs F t d) {off : Int} {tgt : Nat} (hd : decode t.2.2.1 pc = .ok (.ifnull off, 3)) (ht : (pc : Int) + off = (tgt : Int)) (k : AWP F t tgt lv st M) : AWP F t pc lv (.null :: st) M := by
  rintro ⟨p, l, e, R, s, m, args, below, meth, c, A, D, tt, ad, mc, ms, Qf⟩ hX H locs ls hP hD hS hl
  obtain ⟨hx, hb, hml, hown, hts, hK, hA, hE, hroom⟩ := hF _ hX
  exact lv_ifnullN hx hb hd ht (k _ hX H locs ls hP hD hS hl)
theorem r_ifnonnull (hF : Bs F t d) {off : Int} {tgt x : Nat} (hd : decode t.2.2.1 pc = .ok (.ifnonnull off, 3)) (ht : (pc : Int) + off = (tgt : Int)) (k : AWP F t tgt lv st M) : AWP F t pc lv (.ref x :: st) M := by
  rintro ⟨p, l, e, R, s, m, args, below, meth, c, A, D, tt, ad, mc, ms, Qf⟩ hX H locs ls hP hD hS hl
  obtain ⟨hx, hb, hml, hown, hts, hK, hA, hE, hroom⟩ := hF _ hX
  exact lv_ifnonnull hx hb hd ht (k _ hX H locs ls hP hD hS hl)
theorem r_ifnonnullN (hF : Bs F t d) {off : Int} (hd : decode t.2.2.1 pc = .ok (.ifnonnull off, 3)) (k : AWP F t (pc + 3) lv st M) : AWP F t pc lv (.null :: st) M := by
  rintro ⟨p, l, e, R, s, m, args, below, meth, c, A, D, tt, ad, mc, ms, Qf⟩ hX H locs ls hP hD hS hl
  obtain ⟨hx, hb, hml, hown, hts, hK, hA, hE, hroom⟩ := hF _ hX
  exact lv_ifnonnullN hx hb hd (k _ hX H locs ls hP hD hS hl)
theorem r_if_eq_t (hF : Bs F t d) {x : Int32} {off : Int} {tgt : Nat} (hd : decode t.2.2.1 pc = .ok (.ifCond .eq off, 3)) (ht : (pc : Int) + off = (tgt : Int)) (h : x = 0) (k : AWP F t tgt lv st M) : AWP F t pc lv (.int x :: st) M := by
  rintro ⟨p, l, e, R, s, m, args, below, meth, c, A, D, tt, ad, mc, ms, Qf⟩ hX H locs ls hP hD hS hl
  obtain ⟨hx, hb, hml, hown, hts, hK, hA, hE, hroom⟩ := hF _ hX
  exact lv_if_eq hx hb hd ht (fun _ => k _ hX H locs ls hP hD hS hl) (fun h9 => absurd h h9)
theorem r_if_eq_f (hF : Bs F t d) {x : Int32} {off : Int} (tgt : Nat) (hd : decode t.2.2.1 pc = .ok (.ifCond .eq off, 3)) (ht : (pc : Int) + off = (tgt : Int)) (h : ¬ x = 0) (k : AWP F t (pc + 3) lv st M) : AWP F t pc lv (.int x :: st) M := by
  rintro ⟨p, l, e, R, s, m, args, below, meth, c, A, D, tt, ad, mc, ms, Qf⟩ hX H locs ls hP hD hS hl
  obtain ⟨hx, hb, hml, hown, hts, hK, hA, hE, hroom⟩ := hF _ hX
  exact lv_if_eq hx hb hd ht (fun h9 => absurd h9 h) (fun _ => k _ hX H locs ls hP hD hS hl)
theorem r_icmp_eq_t (hF : Bs F t d) {x y : Int32} {off : Int} {tgt : Nat} (hd : decode t.2.2.1 pc = .ok (.if_icmp .eq off, 3)) (ht : (pc : Int) + off = (tgt : Int)) (h : x = y) (k : AWP F t tgt lv st M) : AWP F t pc lv (.int y :: .int x :: st) M := by
  rintro ⟨p, l, e, R, s, m, args, below, meth, c, A, D, tt, ad, mc, ms, Qf⟩ hX H locs ls hP hD hS hl
  obtain ⟨hx, hb, hml, hown, hts, hK, hA, hE, hroom⟩ := hF _ hX
  exact lv_icmp_eq hx hb hd ht (fun _ => k _ hX H locs ls hP hD hS hl) (fun h9 => absurd h h9)
theorem r_icmp_eq_f (hF : Bs F t d) {x y : Int32} {off : Int} (tgt : Nat) (hd : decode t.2.2.1 pc = .ok (.if_icmp .eq off, 3)) (ht : (pc : Int) + off = (tgt : Int)) (h : ¬ x = y) (k : AWP F t (pc + 3) lv st M) : AWP F t pc lv (.int y :: .int x :: st) M := by
  rintro ⟨p, l, e, R, s, m, args, below, meth, c, A, D, tt, ad, mc, ms, Qf⟩ hX H locs ls hP hD hS hl
  obtain ⟨hx, hb, hml, hown, hts, hK, hA, hE, hroom⟩ := hF _ hX
  exact lv_icmp_eq hx hb hd ht (fun h9 => absurd h9 h) (fun _ => k _ hX H locs ls hP hD hS hl)
theorem r_if_ne_t (hF : Bs F t d) {x : Int32} {off : Int} {tgt : Nat} (hd : decode t.2.2.1 pc = .ok (.ifCond .ne off, 3)) (ht : (pc : Int) + off = (tgt : Int)) (h : ¬ x = 0) (k : AWP F t tgt lv st M) : AWP F t pc lv (.int x :: st) M := by
  rintro ⟨p, l, e, R, s, m, args, below, meth, c, A, D, tt, ad, mc, ms, Qf⟩ hX H locs ls hP hD hS hl
  obtain ⟨hx, hb, hml, hown, hts, hK, hA, hE, hroom⟩ := hF _ hX
  exact lv_if_ne hx hb hd ht (fun _ => k _ hX H locs ls hP hD hS hl) (fun h9 => absurd h9 h)
theorem r_if_ne_f (hF : Bs F t d) {x : Int32} {off : Int} (tgt : Nat) (hd : decode t.2.2.1 pc = .ok (.ifCond .ne off, 3)) (ht : (pc : Int) + off = (tgt : Int)) (h : x = 0) (k : AWP F t (pc + 3) lv st M) : AWP F t pc lv (.int x :: st) M := by
  rintro ⟨p, l, e, R, s, m, args, below, meth, c, A, D, tt, ad, mc, ms, Qf⟩ hX H locs ls hP hD hS hl
  obtain ⟨hx, hb, hml, hown, hts, hK, hA, hE, hroom⟩ := hF _ hX
  exact lv_if_ne hx hb hd ht (fun h9 => absurd h h9) (fun _ => k _ hX H locs ls hP hD hS hl)
theorem r_icmp_ne_t (hF : Bs F t d) {x y : Int32} {off : Int} {tgt : Nat} (hd : decode t.2.2.1 pc = .ok (.if_icmp .ne off, 3)) (ht : (pc : Int) + off = (tgt : Int)) (h : ¬ x = y) (k : AWP F t tgt lv st M) : AWP F t pc lv (.int y :: .int x :: st) M := by
  rintro ⟨p, l, e, R, s, m, args, below, meth, c, A, D, tt, ad, mc, ms, Qf⟩ hX H locs ls hP hD hS hl
  obtain ⟨hx, hb, hml, hown, hts, hK, hA, hE, hroom⟩ := hF _ hX
  exact lv_icmp_ne hx hb hd ht (fun _ => k _ hX H locs ls hP hD hS hl) (fun h9 => absurd h9 h)
theorem r_icmp_ne_f (hF : Bs F t d) {x y : Int32} {off : Int} (tgt : Nat) (hd : decode t.2.2.1 pc = .ok (.if_icmp .ne off, 3)) (ht : (pc : Int) + off = (tgt : Int)) (h : x = y) (k : AWP F t (pc + 3) lv st M) : AWP F t pc lv (.int y :: .int x :: st) M := by
  rintro ⟨p, l, e, R, s, m, args, below, meth, c, A, D, tt, ad, mc, ms, Qf⟩ hX H locs ls hP hD hS hl
  obtain ⟨hx, hb, hml, hown, hts, hK, hA, hE, hroom⟩ := hF _ hX
  exact lv_icmp_ne hx hb hd ht (fun h9 => absurd h h9) (fun _ => k _ hX H locs ls hP hD hS hl)
theorem r_if_lt_t (hF : Bs F t d) {x : Int32} {off : Int} {tgt : Nat} (hd : decode t.2.2.1 pc = .ok (.ifCond .lt off, 3)) (ht : (pc : Int) + off = (tgt : Int)) (h : x < 0) (k : AWP F t tgt lv st M) : AWP F t pc lv (.int x :: st) M := by
  rintro ⟨p, l, e, R, s, m, args, below, meth, c, A, D, tt, ad, mc, ms, Qf⟩ hX H locs ls hP hD hS hl
  obtain ⟨hx, hb, hml, hown, hts, hK, hA, hE, hroom⟩ := hF _ hX
  exact lv_if_lt hx hb hd ht (fun _ => k _ hX H locs ls hP hD hS hl) (fun h9 => absurd h h9)
theorem r_if_lt_f (hF : Bs F t d) {x : Int32} {off : Int} (tgt : Nat) (hd : decode t.2.2.1 pc = .ok (.ifCond .lt off, 3)) (ht : (pc : Int) + off = (tgt : Int)) (h : ¬ x < 0) (k : AWP F t (pc + 3) lv st M) : AWP F t pc lv (.int x :: st) M := by
  rintro ⟨p, l, e, R, s, m, args, below, meth, c, A, D, tt, ad, mc, ms, Qf⟩ hX H locs ls hP hD hS hl
  obtain ⟨hx, hb, hml, hown, hts, hK, hA, hE, hroom⟩ := hF _ hX
  exact lv_if_lt hx hb hd ht (fun h9 => absurd h9 h) (fun _ => k _ hX H locs ls hP hD hS hl)
theorem r_icmp_lt_t (hF : Bs F t d) {x y : Int32} {off : Int} {tgt : Nat} (hd : decode t.2.2.1 pc = .ok (.if_icmp .lt off, 3)) (ht : (pc : Int) + off = (tgt : Int)) (h : x < y) (k : AWP F t tgt lv st M) : AWP F t pc lv (.int y :: .int x :: st) M := by
  rintro ⟨p, l, e, R, s, m, args, below, meth, c, A, D, tt, ad, mc, ms, Qf⟩ hX H locs ls hP hD hS hl
  obtain ⟨hx, hb, hml, hown, hts, hK, hA, hE, hroom⟩ := hF _ hX
  exact lv_icmp_lt hx hb hd ht (fun _ => k _ hX H locs ls hP hD hS hl) (fun h9 => absurd h h9)
theorem r_icmp_lt_f (hF : Bs F t d) {x y : Int32} {off : Int} (tgt : Nat) (hd : decode t.2.2.1 pc = .ok (.if_icmp .lt off, 3)) (ht : (pc : Int) + off = (tgt : Int)) (h : ¬ x < y) (k : AWP F t (pc + 3) lv st M) : AWP F t pc lv (.int y :: .int x :: st) M := by
  rintro ⟨p, l, e, R, s, m, args, below, meth, c, A, D, tt, ad, mc, ms, Qf⟩ hX H locs ls hP hD hS hl
  obtain ⟨hx, hb, hml, hown, hts, hK, hA, hE, hroom⟩ := hF _ hX
  exact lv_icmp_lt hx hb hd ht (fun h9 => absurd h9 h) (fun _ => k _ hX H locs ls hP hD hS hl)
theorem r_if_ge_t (hF : Bs F t d) {x : Int32} {off : Int} {tgt : Nat} (hd : decode t.2.2.1 pc = .ok (.ifCond .ge off, 3)) (ht : (pc : Int) + off = (tgt : Int)) (h : 0 ≤ x) (k : AWP F t tgt lv st M) : AWP F t pc lv (.int x :: st) M := by
  rintro ⟨p, l, e, R, s, m, args, below, meth, c, A, D, tt, ad, mc, ms, Qf⟩ hX H locs ls hP hD hS hl
  obtain ⟨hx, hb, hml, hown, hts, hK, hA, hE, hroom⟩ := hF _ hX
  exact lv_if_ge hx hb hd ht (fun _ => k _ hX H locs ls hP hD hS hl) (fun h9 => absurd h h9)
theorem r_if_ge_f (hF : Bs F t d) {x : Int32} {off : Int} (tgt : Nat) (hd : decode t.2.2.1 pc = .ok (.ifCond .ge off, 3)) (ht : (pc : Int) + off = (tgt : Int)) (h : ¬ 0 ≤ x) (k : AWP F t (pc + 3) lv st M) : AWP F t pc lv (.int x :: st) M := by
  rintro ⟨p, l, e, R, s, m, args, below, meth, c, A, D, tt, ad, mc, ms, Qf⟩ hX H locs ls hP hD hS hl
  obtain ⟨hx, hb, hml, hown, hts, hK, hA, hE, hroom⟩ := hF _ hX
  exact lv_if_ge hx hb hd ht (fun h9 => absurd h9 h) (fun _ => k _ hX H locs ls hP hD hS hl)
theorem r_icmp_ge_t (hF : Bs F t d) {x y : Int32} {off : Int} {tgt : Nat} (hd : decode t.2.2.1 pc = .ok (.if_icmp .ge off, 3)) (ht : (pc : Int) + off = (tgt : Int)) (h : y ≤ x) (k : AWP F t tgt lv st M) : AWP F t pc lv (.int y :: .int x :: st) M := by
  rintro ⟨p, l, e, R, s, m, args, below, meth, c, A, D, tt, ad, mc, ms, Qf⟩ hX H locs ls hP hD hS hl
  obtain ⟨hx, hb, hml, hown, hts, hK, hA, hE, hroom⟩ := hF _ hX
  exact lv_icmp_ge hx hb hd ht (fun _ => k _ hX H locs ls hP hD hS hl) (fun h9 => absurd h h9)
theorem r_icmp_ge_f (hF : Bs F t d) {x y : Int32} {off : Int} (tgt : Nat) (hd : decode t.2.2.1 pc = .ok (.if_icmp .ge off, 3)) (ht : (pc : Int) + off = (tgt : Int)) (h : ¬ y ≤ x) (k : AWP F t (pc + 3) lv st M) : AWP F t pc lv (.int y :: .int x :: st) M := by
  rintro ⟨p, l, e, R, s, m, args, below, meth, c, A, D, tt, ad, mc, ms, Qf⟩ hX H locs ls hP hD hS hl
  obtain ⟨hx, hb, hml, hown, hts, hK, hA, hE, hroom⟩ := hF _ hX
  exact lv_icmp_ge hx hb hd ht (fun h9 => absurd h9 h) (fun _ => k _ hX H locs ls hP hD hS hl)
theorem r_if_gt_t (hF : Bs F t d) {x : Int32} {off : Int} {tgt : Nat} (hd : decode t.2.2.1 pc = .ok (.ifCond .gt off, 3)) (ht : (pc : Int) + off = (tgt : Int)) (h : 0 < x) (k : AWP F t tgt lv st M) : AWP F t pc lv (.int x :: st) M := by
  rintro ⟨p, l, e, R, s, m, args, below, meth, c, A, D, tt, ad, mc, ms, Qf⟩ hX H locs ls hP hD hS hl
  obtain ⟨hx, hb, hml, hown, hts, hK, hA, hE, hroom⟩ := hF _ hX
  exact lv_if_gt hx hb hd ht (fun _ => k _ hX H locs ls hP hD hS hl) (fun h9 => absurd h h9)
theorem r_if_gt_f (hF : Bs F t d) {x : Int32} {off : Int} (tgt : Nat) (hd : decode t.2.2.1 pc = .ok (.ifCond .gt off, 3)) (ht : (pc : Int) + off = (tgt : Int)) (h : ¬ 0 < x) (k : AWP F t (pc + 3) lv st M) : AWP F t pc lv (.int x :: st) M := by
  rintro ⟨p, l, e, R, s, m, args, below, meth, c, A, D, tt, ad, mc, ms, Qf⟩ hX H locs ls hP hD hS hl
  obtain ⟨hx, hb, hml, hown, hts, hK, hA, hE, hroom⟩ := hF _ hX
  exact lv_if_gt hx hb hd ht (fun h9 => absurd h9 h) (fun _ => k _ hX H locs ls hP hD hS hl)
theorem r_icmp_gt_t (hF : Bs F t d) {x y : Int32} {off : Int} {tgt : Nat} (hd : decode t.2.2.1 pc = .ok (.if_icmp .gt off, 3)) (ht : (pc : Int) + off = (tgt : Int)) (h : y < x) (k : AWP F t tgt lv st M) : AWP F t pc lv (.int y :: .int x :: st) M := by
  rintro ⟨p, l, e, R, s, m, args, below, meth, c, A, D, tt, ad, mc, ms, Qf⟩ hX H locs ls hP hD hS hl
  obtain ⟨hx, hb, hml, hown, hts, hK, hA, hE, hroom⟩ := hF _ hX
  exact lv_icmp_gt hx hb hd ht (fun _ => k _ hX H locs ls hP hD hS hl) (fun h9 => absurd h h9)
theorem r_icmp_gt_f (hF : Bs F t d) {x y : Int32} {off : Int} (tgt : Nat) (hd : decode t.2.2.1 pc = .ok (.if_icmp .gt off, 3)) (ht : (pc : Int) + off = (tgt : Int)) (h : ¬ y < x) (k : AWP F t (pc + 3) lv st M) : AWP F t pc lv (.int y :: .int x :: st) M := by
  rintro ⟨p, l, e, R, s, m, args, below, meth, c, A, D, tt, ad, mc, ms, Qf⟩ hX H locs ls hP hD hS hl
  obtain ⟨hx, hb, hml, hown, hts, hK, hA, hE, hroom⟩ := hF _ hX
  exact lv_icmp_gt hx hb hd ht (fun h9 => absurd h9 h) (fun _ => k _ hX H locs ls hP hD hS hl)
theorem r_if_le_t (hF : Bs F t d) {x : Int32} {off : Int} {tgt : Nat} (hd : decode t.2.2.1 pc = .ok (.ifCond .le off, 3)) (ht : (pc : Int) + off = (tgt : Int)) (h : x ≤ 0) (k : AWP F t tgt lv st M) : AWP F t pc lv (.int x :: st) M := by
  rintro ⟨p, l, e, R, s, m, args, below, meth, c, A, D, tt, ad, mc, ms, Qf⟩ hX H locs ls hP hD hS hl
  obtain ⟨hx, hb, hml, hown, hts, hK, hA, hE, hroom⟩ := hF _ hX
  exact lv_if_le hx hb hd ht (fun _ => k _ hX H locs ls hP hD hS hl) (fun h9 => absurd h h9)
theorem r_if_le_f (hF : Bs F t d) {x : Int32} {off : Int} (tgt : Nat) (hd : decode t.2.2.1 pc = .ok (.ifCond .le off, 3)) (ht : (pc : Int) + off = (tgt : Int)) (h : ¬ x ≤ 0) (k : AWP F t (pc + 3) lv st M) : AWP F t pc lv (.int x :: st) M := by
  rintro ⟨p, l, e, R, s, m, args, below, meth, c, A, D, tt, ad, mc, ms, Qf⟩ hX H locs ls hP hD hS hl
  obtain ⟨hx, hb, hml, hown, hts, hK, hA, hE, hroom⟩ := hF _ hX
  exact lv_if_le hx hb hd ht (fun h9 => absurd h9 h) (fun _ => k _ hX H locs ls hP hD hS hl)
theorem r_icmp_le_t (hF : Bs F t d) {x y : Int32} {off : Int} {tgt : Nat} (hd : decode t.2.2.1 pc = .ok (.if_icmp .le off, 3)) (ht : (pc : Int) + off = (tgt : Int)) (h : x ≤ y) (k : AWP F t tgt lv st M) : AWP F t pc lv (.int y :: .int x :: st) M := by
  rintro ⟨p, l, e, R, s, m, args, below, meth, c, A, D, tt, ad, mc, ms, Qf⟩ hX H locs ls hP hD hS hl
  obtain ⟨hx, hb, hml, hown, hts, hK, hA, hE, hroom⟩ := hF _ hX
  exact lv_icmp_le hx hb hd ht (fun _ => k _ hX H locs ls hP hD hS hl) (fun h9 => absurd h h9)
theorem r_icmp_le_f (hF : Bs F t d) {x y : Int32} {off : Int} (tgt : Nat) (hd : decode t.2.2.1 pc = .ok (.if_icmp .le off, 3)) (ht : (pc : Int) + off = (tgt : Int)) (h : ¬ x ≤ y) (k : AWP F t (pc + 3) lv st M) : AWP F t pc lv (.int y :: .int x :: st) M := by
  rintro ⟨p, l, e, R, s, m, args, below, meth, c, A, D, tt, ad, mc, ms, Qf⟩ hX H locs ls hP hD hS hl
  obtain ⟨hx, hb, hml, hown, hts, hK, hA, hE, hroom⟩ := hF _ hX
  exact lv_icmp_le hx hb hd ht (fun h9 => absurd h9 h) (fun _ => k _ hX H locs ls hP hD hS hl)
theorem r_tsw_in (hF : Bs F t d) {dflt lo hi : Int} {offs : Array Int} {len : Nat} {x v : Int32} {off : Int} {tgt : Nat} (hd : decode t.2.2.1 pc = .ok (.tableswitch dflt lo hi offs, len)) (h : x = v) (h1 : ¬ v.toInt < lo) (h2 : ¬ hi < v.toInt) (ho : offs[(v.toInt - lo).toNat]? = some off) (ht : (pc : Int) + off = (tgt : Int)) (k : AWP F t tgt lv st M) : AWP F t pc lv (.int x :: st) M := by
  rintro ⟨p, l, e, R, s, m, args, below, meth, c, A, D, tt, ad, mc, ms, Qf⟩ hX H locs ls hP hD hS hl
  obtain ⟨hx, hb, hml, hown, hts, hK, hA, hE, hroom⟩ := hF _ hX
  subst h
  exact lv_tableIn hx hb hd h1 h2 ho ht (k _ hX H locs ls hP hD hS hl)
theorem r_tsw_out (hF : Bs F t d) {dflt lo hi : Int} {offs : Array Int} {len : Nat} {x : Int32} {tgt : Nat} (hd : decode t.2.2.1 pc = .ok (.tableswitch dflt lo hi offs, len)) (h : x.toInt < lo ∨ hi < x.toInt) (ht : (pc : Int) + dflt = (tgt : Int)) (k : AWP F t tgt lv st M) : AWP F t pc lv (.int x :: st) M := by
  rintro ⟨p, l, e, R, s, m, args, below, meth, c, A, D, tt, ad, mc, ms, Qf⟩ hX H locs ls hP hD hS hl
  obtain ⟨hx, hb, hml, hown, hts, hK, hA, hE, hroom⟩ := hF _ hX
  exact lv_tableOut hx hb hd h ht (k _ hX H locs ls hP hD hS hl)
theorem r_lsw (hF : Bs F t d) {dflt : Int} {ps : Array (Int × Int)} {len : Nat} {x : Int32} {off : Int} {tgt : Nat} (hd : decode t.2.2.1 pc = .ok (.lookupswitch dflt ps, len)) (hp : (ps.toList.zip (ps.toList.drop 1)).all (fun (a, next) => a.1 < next.1) = true) (ho : Op.lookupswitch.offset ps.toList dflt x.toInt = off) (ht : (pc : Int) + off = (tgt : Int)) (k : AWP F t tgt lv st M) : AWP F t pc lv (.int x :: st) M := by
  rintro ⟨p, l, e, R, s, m, args, below, meth, c, A, D, tt, ad, mc, ms, Qf⟩ hX H locs ls hP hD hS hl
  obtain ⟨hx, hb, hml, hown, hts, hK, hA, hE, hroom⟩ := hF _ hX
  exact lv_lookup hx hb hd hp ho ht (k _ hX H locs ls hP hD hS hl)
theorem r_iaload (hF : Bs F t d) {p9 n : Nat} {i : Int32} (hd : decode t.2.2.1 pc = .ok (.iaload, 1)) (hsh : SH[p9]? = some (.inr (.inl n))) (hin : vp_in i n) (k : AWP F t (pc + 1) lv (.int (M p9 i.toNatClampNeg) :: st) M) : AWP F t pc lv (.int i :: .ref p9 :: st) M := by
  rintro ⟨p, l, e, R, s, m, args, below, meth, c, A, D, tt, ad, mc, ms, Qf⟩ hX H locs ls hP hD hS hl
  obtain ⟨hx, hb, hml, hown, hts, hK, hA, hE, hroom⟩ := hF _ hX
  exact va_iald hx hb hK hP p9 0 (cW_at hsh) rfl hin hd (k _ hX H locs ls hP hD hS hl)
theorem r_iastore (hF : Bs F t d) {p9 n : Nat} {i x : Int32} (hd : decode t.2.2.1 pc = .ok (.iastore, 1)) (hsh : SH[p9]? = some (.inr (.inl n))) (hin : vp_in i n) (k : AWP F t (pc + 1) lv st (upm M p9 i.toNatClampNeg x)) : AWP F t pc lv (.int x :: .int i :: .ref p9 :: st) M := by
  rintro ⟨p, l, e, R, s, m, args, below, meth, c, A, D, tt, ad, mc, ms, Qf⟩ hX H locs ls hP hD hS hl
  obtain ⟨hx, hb, hml, hown, hts, hK, hA, hE, hroom⟩ := hF _ hX
  exact va_iast hx hb hK hP hD hS p9 0 (cW_at hsh) rfl hin hd (fun H1 locs1 hP1 hD1 hS1 => k _ hX H1 locs1 ls (by rw [← upr_upm, ← cW_upr hsh]; exact hP1) (by rw [← upr_upm, ← cW_upr hsh]; exact hD1) hS1 hl)
theorem r_alen (hF : Bs F t d) {p9 n : Nat} {v : Int32} (hd : decode t.2.2.1 pc = .ok (.arraylength, 1)) (hsh : SH[p9]? = some (.inr (.inl n))) (hv : Int32.ofNat n = v) (k : AWP F t (pc + 1) lv (.int v :: st) M) : AWP F t pc lv (.ref p9 :: st) M := by
  rintro ⟨p, l, e, R, s, m, args, below, meth, c, A, D, tt, ad, mc, ms, Qf⟩ hX H locs ls hP hD hS hl
  obtain ⟨hx, hb, hml, hown, hts, hK, hA, hE, hroom⟩ := hF _ hX
  exact va_alen hx hb hK hP p9 0 (cW_at hsh) (ty := .int) rfl hv hd (k _ hX H locs ls hP hD hS hl)
theorem r_aaload (hF : Bs F t d) {p9 q : Nat} {es : List (Option Nat)} {i : Int32} {C : String} (j : Nat) (hd : decode t.2.2.1 pc = .ok (.aaload, 1)) (hsh : SH[p9]? = some (.inr (.inr (j, es)))) (hj : ∀ tt : Nat → ClassId, (tysT tt)[j]? = some (tt j, .object C)) (hin : vp_in i es.length) (he : es[i.toNatClampNeg]? = some (some q)) (k : AWP F t (pc + 1) lv (.ref q :: st) M) : AWP F t pc lv (.int i :: .ref p9 :: st) M := by
  rintro ⟨p, l, e, R, s, m, args, below, meth, c, A, D, tt, ad, mc, ms, Qf⟩ hX H locs ls hP hD hS hl
  obtain ⟨hx, hb, hml, hown, hts, hK, hA, hE, hroom⟩ := hF _ hX
  refine va_aldq hx hb hK hP p9 j (cW_at hsh) (hj tt) hin hd ?_
  show W p l e R s m args below meth c H locs mc ms Qf (F0 m (pc + 1) ls (va_rf ((es[i.toNatClampNeg]?.join).map ad) :: st.map (cv ad)))
  rw [he]
  exact k _ hX H locs ls hP hD hS hl
end ROWS
theorem uwX0 : ∀ w ∈ u_ws RX0 TX0 6, w ∈ GW := by
  have h : u_ws RX0 TX0 6 = ([198, 200, 202, 204, 206, 208] : List Nat).filterMap (fun i => lw_tbl[i]?) := by decide +kernel
  have hg : (u_ws RX0 TX0 6).all goodWord = true := by decide +kernel
  intro w hw
  have h2 := List.all_eq_true.mp hg w hw
  rw [h] at hw
  obtain ⟨i, -, hi⟩ := List.mem_filterMap.mp hw
  exact gw i hi h2
theorem uwX1 : ∀ w ∈ u_ws RX1 TX1 3, w ∈ GW := by
  have h : u_ws RX1 TX1 3 = ([224, 226, 228] : List Nat).filterMap (fun i => lw_tbl[i]?) := by decide +kernel
  have hg : (u_ws RX1 TX1 3).all goodWord = true := by decide +kernel
  intro w hw
  have h2 := List.all_eq_true.mp hg w hw
  rw [h] at hw
  obtain ⟨i, -, hi⟩ := List.mem_filterMap.mp hw
  exact gw i hi h2
theorem uwX2 : ∀ w ∈ u_ws RX2 TX2 4, w ∈ GW := by
  have h : u_ws RX2 TX2 4 = ([244, 246, 248, 250] : List Nat).filterMap (fun i => lw_tbl[i]?) := by decide +kernel
  have hg : (u_ws RX2 TX2 4).all goodWord = true := by decide +kernel
  intro w hw
  have h2 := List.all_eq_true.mp hg w hw
  rw [h] at hw
  obtain ⟨i, -, hi⟩ := List.mem_filterMap.mp hw
  exact gw i hi h2
theorem uwX3 : ∀ w ∈ u_ws RX3 TX3 4, w ∈ GW := by
  have h : u_ws RX3 TX3 4 = ([170, 172, 174, 176] : List Nat).filterMap (fun i => lw_tbl[i]?) := by decide +kernel
  have hg : (u_ws RX3 TX3 4).all goodWord = true := by decide +kernel
  intro w hw
  have h2 := List.all_eq_true.mp hg w hw
  rw [h] at hw
  obtain ⟨i, -, hi⟩ := List.mem_filterMap.mp hw
  exact gw i hi h2
theorem uwX4 : ∀ w ∈ u_ws RX4 TX4 10, w ∈ GW := by
  have h : u_ws RX4 TX4 10 = ([137, 139, 141, 143, 145, 147, 149, 151, 153, 155] : List Nat).filterMap (fun i => lw_tbl[i]?) := by decide +kernel
  have hg : (u_ws RX4 TX4 10).all goodWord = true := by decide +kernel
  intro w hw
  have h2 := List.all_eq_true.mp hg w hw
  rw [h] at hw
  obtain ⟨i, -, hi⟩ := List.mem_filterMap.mp hw
  exact gw i hi h2
theorem uwX5 : ∀ w ∈ u_ws RX5 TX5 15, w ∈ GW := by
  have h : u_ws RX5 TX5 15 = ([268, 270, 272, 274, 276, 278, 280, 282, 284, 286, 288, 290, 292, 294, 296] : List Nat).filterMap (fun i => lw_tbl[i]?) := by decide +kernel
  have hg : (u_ws RX5 TX5 15).all goodWord = true := by decide +kernel
  intro w hw
  have h2 := List.all_eq_true.mp hg w hw
  rw [h] at hw
  obtain ⟨i, -, hi⟩ := List.mem_filterMap.mp hw
  exact gw i hi h2
theorem uwX6 : ∀ w ∈ u_ws RX6 TX6 30, w ∈ GW := by
  have h : u_ws RX6 TX6 30 = ([905, 907, 909, 911, 913, 915, 917, 919, 921, 923, 925, 927, 929, 931, 933, 935, 937, 939, 941, 943, 945, 947, 949, 951, 953, 955, 957, 959, 961, 963] : List Nat).filterMap (fun i => lw_tbl[i]?) := by decide +kernel
  have hg : (u_ws RX6 TX6 30).all goodWord = true := by decide +kernel
  intro w hw
  have h2 := List.all_eq_true.mp hg w hw
  rw [h] at hw
  obtain ⟨i, -, hi⟩ := List.mem_filterMap.mp hw
  exact gw i hi h2
theorem cls_info {ci N : Nat} {C : String} {T : u_T} (h : classes[ci]? = some (C, T, N)) : (∀ w ∈ u_ws C T N, w ∈ GW) ∧ (∃ ty0 : Nat → FieldType, ∀ k, k < N → parseFieldDescriptor (T k).2.2.1 = some (ty0 k)) ∧ (∀ a, a < N → ∀ b, b < N → a ≠ b → (T a).2.1 ≠ (T b).2.1) := by
  match ci, h with
  | 0, h => cases h; exact ⟨uwX0, ⟨tyX0, tyX0_ok⟩, nmX0⟩
  | 1, h => cases h; exact ⟨uwX1, ⟨tyX1, tyX1_ok⟩, nmX1⟩
  | 2, h => cases h; exact ⟨uwX2, ⟨tyX2, tyX2_ok⟩, nmX2⟩
  | 3, h => cases h; exact ⟨uwX3, ⟨tyX3, tyX3_ok⟩, nmX3⟩
  | 4, h => cases h; exact ⟨uwX4, ⟨tyX4, tyX4_ok⟩, nmX4⟩
  | 5, h => cases h; exact ⟨uwX5, ⟨tyX5, tyX5_ok⟩, nmX5⟩
  | 6, h => cases h; exact ⟨uwX6, ⟨tyX6, tyX6_ok⟩, nmX6⟩
  | n + 7, h => simp [classes] at h
section ROWS2
variable {F : Cx → Prop} {t : MT} {d pc : Nat} {lv : List (Nat × Value)} {st : List Value} {M : Mem}
theorem r_getI (hF : Bs F t d) {p9 ci N idx : Nat} {C : String} {T : u_T} {fs : List (Option (Option Nat))} (hd : decode t.2.2.1 pc = .ok (.getfield idx, 3)) (hsh : SH[p9]? = some (.inl (ci, fs))) (hc : classes[ci]? = some (C, T, N)) (k9 : Nat) (hk : k9 < N) (hw : Cond.fieldLink t.1 idx (T k9).1 (T k9).2.1 (T k9).2.2.1 ∈ GW) (hf : fs[k9]? = some none) (k : AWP F t (pc + 3) lv (.int (M p9 k9) :: st) M) : AWP F t pc lv (.ref p9 :: st) M := by
  rintro ⟨p, l, e, R, s, m, args, below, meth, c, A, D, tt, ad, mc, ms, Qf⟩ hX H locs ls hP hD hS hl
  obtain ⟨hx, hb, hml, hown, hts, hK, hA, hE, hroom⟩ := hF _ hX
  exact va_get (D := D) (v := .int (M p9 k9)) hx hb hts (cls_info hc).1 hown hK hP p9 (cW_at hsh) hc k9 hk (hts _ hw) (fun _ h9 => h9) (by rw [List.getElem?_mapIdx, hf]; rfl) hd (k _ hX H locs ls hP hD hS hl)
theorem r_getR (hF : Bs F t d) {p9 ci N idx : Nat} {C : String} {T : u_T} {fs : List (Option (Option Nat))} {q : Nat} (hd : decode t.2.2.1 pc = .ok (.getfield idx, 3)) (hsh : SH[p9]? = some (.inl (ci, fs))) (hc : classes[ci]? = some (C, T, N)) (k9 : Nat) (hk : k9 < N) (hw : Cond.fieldLink t.1 idx (T k9).1 (T k9).2.1 (T k9).2.2.1 ∈ GW) (hf : fs[k9]? = some (some (some q))) (k : AWP F t (pc + 3) lv (.ref q :: st) M) : AWP F t pc lv (.ref p9 :: st) M := by
  rintro ⟨p, l, e, R, s, m, args, below, meth, c, A, D, tt, ad, mc, ms, Qf⟩ hX H locs ls hP hD hS hl
  obtain ⟨hx, hb, hml, hown, hts, hK, hA, hE, hroom⟩ := hF _ hX
  exact va_get (D := D) (v := .ref (ad q)) hx hb hts (cls_info hc).1 hown hK hP p9 (cW_at hsh) hc k9 hk (hts _ hw) (fun _ h9 => h9) (by rw [List.getElem?_mapIdx, hf]; rfl) hd (k _ hX H locs ls hP hD hS hl)
theorem r_putI (hF : Bs F t d) {p9 ci N idx : Nat} {C : String} {T : u_T} {fs : List (Option (Option Nat))} {x : Int32} {ty : FieldType} (hd : decode t.2.2.1 pc = .ok (.putfield idx, 3)) (hsh : SH[p9]? = some (.inl (ci, fs))) (hc : classes[ci]? = some (C, T, N)) (k9 : Nat) (hk : k9 < N) (hw : Cond.fieldLink t.1 idx (T k9).1 (T k9).2.1 (T k9).2.2.1 ∈ GW) (hf : fs[k9]? = some none) (hfin : (T k9).2.2.2 = false) (hty : parseFieldDescriptor (T k9).2.2.1 = some ty) (hn : narrow ty (.int x) = .int x) (hfit : fits ty (.int x) = true) (k : AWP F t (pc + 3) lv st (upm M p9 k9 x)) : AWP F t pc lv (.int x :: .ref p9 :: st) M := by
  rintro ⟨p, l, e, R, s, m, args, below, meth, c, A, D, tt, ad, mc, ms, Qf⟩ hX H locs ls hP hD hS hl
  obtain ⟨hx, hb, hml, hown, hts, hK, hA, hE, hroom⟩ := hF _ hX
  obtain ⟨hin, ⟨ty0, hty0⟩, hnm⟩ := cls_info hc
  exact va_put (D := D) (v := .int x) hx hb hts hin ty0 hty0 hnm hown hK hP hD hS p9 (cW_at hsh) hc k9 hk (hts _ hw) (fun _ h9 => h9) hfin hty hn hfit (by rw [List.length_mapIdx]; exact (List.getElem?_eq_some_iff.mp hf).1) hd (fun H1 locs1 hP1 hD1 hS1 => k _ hX H1 locs1 ls (by rw [← cW_upf hsh hf]; exact hP1) (by rw [← cW_upf hsh hf]; exact hD1) hS1 hl)
theorem r_gets (hF : Bs F t d) {i idx : Nat} {q : String × String × List Int32} (hd : decode t.2.2.1 pc = .ok (.getstatic idx, 3)) (hq : stL[i]? = some q) (hw : Cond.fieldLink t.1 idx q.1 q.2.1 "[I" ∈ GW) (k : AWP F t (pc + 3) lv (.ref (100 + i) :: st) M) : AWP F t pc lv st M := by
  rintro ⟨p, l, e, R, s, m, args, below, meth, c, A, D, tt, ad, mc, ms, Qf⟩ hX H locs ls hP hD hS hl
  obtain ⟨hx, hb, hml, hown, hts, hK, hA, hE, hroom⟩ := hF _ hX
  exact va_gets hx hb (hE.2.1 i q hq).1 hS hown (hts _ hw) (fun _ h9 => h9) hd (k _ hX H locs ls hP hD hS hl)
theorem r_getsN (hF : Bs F t d) {i idx : Nat} {q : String × String × List Int32} {host : String} (hd : decode t.2.2.1 pc = .ok (.getstatic idx, 3)) (hq : stL[i]? = some q) (hw : Cond.fieldLinkNest t.1 idx q.1 q.2.1 "[I" host ∈ nestW) (k : AWP F t (pc + 3) lv (.ref (100 + i) :: st) M) : AWP F t pc lv st M := by
  rintro ⟨p, l, e, R, s, m, args, below, meth, c, A, D, tt, ad, mc, ms, Qf⟩ hX H locs ls hP hD hS hl
  obtain ⟨hx, hb, hml, hown, hts, hK, hA, hE, hroom⟩ := hF _ hX
  exact va_getsN hx hb (hE.2.1 i q hq).1 hS hown (va_Nw.use rfl (hE.1 _ hw)) (fun _ h9 => h9) hd (k _ hX H locs ls hP hD hS hl)
theorem r_tiald (hF : Bs F t d) {j : Nat} {i : Int32} {q : String × String × List Int32} (hd : decode t.2.2.1 pc = .ok (.iaload, 1)) (hq : stL[j]? = some q) (hin : vp_in i q.2.2.length) (k : AWP F t (pc + 1) lv (.int (q.2.2.getD i.toNatClampNeg 0) :: st) M) : AWP F t pc lv (.int i :: .ref (100 + j) :: st) M := by
  rintro ⟨p, l, e, R, s, m, args, below, meth, c, A, D, tt, ad, mc, ms, Qf⟩ hX H locs ls hP hD hS hl
  obtain ⟨hx, hb, hml, hown, hts, hK, hA, hE, hroom⟩ := hF _ hX
  exact va_ti hx hb (hE.2.1 j q hq).2 hS hin rfl hd (k _ hX H locs ls hP hD hS hl)
theorem r_tlen (hF : Bs F t d) {j : Nat} {v : Int32} {q : String × String × List Int32} (hd : decode t.2.2.1 pc = .ok (.arraylength, 1)) (hq : stL[j]? = some q) (hv : Int32.ofNat q.2.2.length = v) (k : AWP F t (pc + 1) lv (.int v :: st) M) : AWP F t pc lv (.ref (100 + j) :: st) M := by
  rintro ⟨p, l, e, R, s, m, args, below, meth, c, A, D, tt, ad, mc, ms, Qf⟩ hX H locs ls hP hD hS hl
  obtain ⟨hx, hb, hml, hown, hts, hK, hA, hE, hroom⟩ := hF _ hX
  exact va_tlen hx hb (hE.2.1 j q hq).2 hS hv hd (k _ hX H locs ls hP hD hS hl)
/-! what a static, what an instance method's words are -/
def MS (t2 : MT) (n : Nat) : Prop := Cond.code t2.2.1 t2.2.2.1 t2.2.2.2.1 t2.2.2.2.2 ∈ GW ∧ Cond.static t2.2.1 ∈ GW ∧ Cond.initialized t2.2.1.cls ∈ GW ∧ (t2.2.1.cls ≠ "java/lang/invoke/MethodHandle" ∧ t2.2.1.cls ≠ "java/lang/invoke/VarHandle" ∧ (parseMethodDescriptor t2.2.1.desc).map (fun d => d.parameters.length) = some n) ∧ t2.2.2.2.1 ≤ 40
def MV (t2 : MT) (n : Nat) : Prop := Cond.code t2.2.1 t2.2.2.1 t2.2.2.2.1 t2.2.2.2.2 ∈ GW ∧ (Cond.instanceMethod t2.2.1 ∈ GW ∧ Cond.selects t2.2.1.cls t2.2.1 t2.2.1 ∈ GW) ∧ Cond.initialized t2.2.1.cls ∈ GW ∧ (t2.2.1.cls ≠ "java/lang/invoke/MethodHandle" ∧ t2.2.1.cls ≠ "java/lang/invoke/VarHandle" ∧ (parseMethodDescriptor t2.2.1.desc).map (fun d => d.parameters.length) = some n) ∧ t2.2.2.2.1 ≤ 40
theorem blindB {as : List Value} {D : va_G} {tt : Nat → ClassId} {ad : Nat → Nat} {sz : Nat} {M : Mem} : FrameBlind (va_Pc as (PreB D tt ad sz M)) := by
  intro a U g mk h
  obtain ⟨h0, h1, h2, h3, h4, h5⟩ := h
  exact ⟨h0, h1, h2, va_K.moved (u := U) (U := U.calling g mk a) (Vm.Alike.refl U.vm) h3, h4, EV.same (u := U) (U := U.calling g mk a) rfl rfl h5⟩
theorem goodB {t t2 : MT} (h : Cond.code t2.2.1 t2.2.2.1 t2.2.2.2.1 t2.2.2.2.2 ∈ GW) : GoodIn GW (wsM t2) := by
  intro w hw
  rcases List.mem_cons.mp hw with rfl | hw
  · exact ⟨h, gw_good h⟩
  · exact ⟨hw, gw_good hw⟩
/-- behind a call -/
theorem r_after {p : Program} {l : Launch} {e : Env} {R : Room} {s : State} {m : MethodId} {args : Array Value} {below : List Frame} {meth : Method} {c : Code} {A : Nat → Prop} {D : va_G} {tt : Nat → ClassId} {ad : Nat → Nat} {mc ms : Nat} {Qf : State → Prop} {nL : Nat} {H : Heap} {locs : List Loc} {ls : Array Slot} {st0 : List Value} {a : Array Value} {res : Option Value × Mem}
    (hD : va_D A (cW ad tt M)) (hS : va_S A s.heap H locs) (hA : ∀ q, s.heap.size ≤ q → A q) (hl : lv_has ls nL (cL ad lv))
    (run : va_Run p l e R s m args below meth c H locs mc ms 0 0 (F0 m pc ls st0) (st.map (cv ad)) (PostB D tt ad H.size M res a) (va_A (cW ad tt M) H.size))
    (k : AW (p, l, e, R, s, m, args, below, meth, c, A, D, tt, ad, mc, ms, Qf) nL (pc + 3) lv (res.1.toList ++ st) res.2) :
    W p l e R s m args below meth c H locs mc ms Qf (F0 m pc ls st0) := by
  have hAB : ∀ q, va_A (cW ad tt M) H.size q → A q := by
    intro q h
    rcases h with ⟨k2, e2, h⟩ | h
    · exact hD.2 k2 _ h
    · exact hA q (Nat.le_trans hS.1 h)
  intro T hT X
  obtain ⟨v, st₀, t', T', L, h0, X', hL, e1, e2, ⟨⟨hv, hP1, hK1, hD1⟩, hz, hk⟩, stp⟩ := run T hT X
  have hv' : v = res.1.map (cv ad) := by cases hv; rfl
  subst hv'
  rw [h0] at hz hk
  obtain ⟨t2, a1, b1⟩ := k T'.heap (locs ++ L) ls (by rw [e1]; exact hP1) (hD1.weaken (fun _ q _ h => hAB q.1 h))
    ⟨Nat.le_trans hS.1 (by rw [e1]; exact hz), fun q h1 h2 => by rw [e1, hk q (Nat.lt_of_lt_of_le h1 hS.1) (fun z => h2 (hAB q z))]; exact hS.2.1 q h1 h2, fun q hq => by
      rcases List.mem_append.mp hq with h | h
      · exact hS.2.2 q h
      · exact hAB _ (hL q h)⟩ hl T' rfl X'
  refine ⟨t2, stp t2 ?_, b1⟩
  have e3 : (res.1.map (cv ad)).toList ++ st.map (cv ad) = (res.1.toList ++ st).map (cv ad) := by
    cases res.1 <;> rfl
  rw [e3]
  exact a1
theorem r_catsum {ad : Nat → Nat} (st : List Value) : ((st.map (cv ad)).map fun v => v.category) = st.map fun v => v.category := by
  rw [List.map_map]
  apply List.map_congr_left
  intro v _
  exact cv_cat ad v
theorem r_callS (hF : Bs F t d) {t2 : MT} {d2 n idx : Nat} {as stk : List Value} {res : Option Value × Mem} (hd : decode t.2.2.1 pc = .ok (.invokestatic idx, 3)) (hc : CT t2 d2 as M res) (hs : MS t2 n) (hw : Cond.methodLink t.1 idx t2.2.1 ∈ GW) (hlen : as.length = n) (hdd : d2 + 1 ≤ d) (hst : stk = as.reverse ++ st) (hcat : (st.map fun v => v.category).sum ≤ 8) (k : AWP F t (pc + 3) lv (res.1.toList ++ st) res.2) : AWP F t pc lv stk M := by
  rintro ⟨p, l, e, R, s, m, args, below, meth, c, A, D, tt, ad, mc, ms, Qf⟩ hX H locs ls hP hD hS hl
  obtain ⟨hx, hb, hml, hown, hts, hK, hA, hE, hroom⟩ := hF _ hX
  subst hst
  obtain ⟨hs1, hs2, hs3, hs4, hs5⟩ := hs
  obtain ⟨hr1, hr2, hr3, hr4⟩ := hroom
  have hR : (rmD d2).frames + 1 ≤ R.frames ∧ 8 + (t2.2.2.2.1 + 11) + (rmD d2).locals ≤ R.locals := by
    show d2 + 1 ≤ R.frames ∧ 8 + (t2.2.2.2.1 + 11) + 64 * d2 ≤ R.locals
    omega
  have hAB : ∀ q, va_A (cW ad tt M) H.size q → A q := by
    intro q h
    rcases h with ⟨k2, e2, h⟩ | h
    · exact hD.2 k2 _ h
    · exact hA q (Nat.le_trans hS.1 h)
  have hpre : ∀ U : State, U.heap = H → s.WarmedH U.vm → va_Pc (as.map (cv ad)) (PreB D tt ad H.size M) (as.map (cv ad)).toArray U := fun U hU hW => ⟨rfl, by rw [hU], by rw [hU]; exact hP, va_K.moved hW.alike hK, hD.weaken (fun _ _ _ _ => trivial), EV.pass hE hS hU hW hAB⟩
  refine r_after (a := (as.map (cv ad)).toArray) hD hS hA hl (va_runS (As := as.map (cv ad)) (rest := st.map (cv ad)) ⟨hx, hb, hml, hown, hts⟩ (hc l D tt ad H.size) ⟨callB_of n hts (goodB (t := t) hs1) rfl rfl rfl (hts _ hs3) (hts _ hw) hs4 hR, hts _ hs2⟩ ⟨blindB, hpre⟩ rfl (by rw [List.length_map]; exact hlen) hl.1 (by show ((as.reverse ++ st).map (cv ad)) = _; rw [List.map_append, List.map_reverse]) (lv_room (by rw [r_catsum]; exact hcat)) hd ⟨by omega, by omega⟩) (k _ hX)
theorem r_callSN (hF : Bs F t d) {t2 : MT} {d2 n idx : Nat} {as stk : List Value} {res : Option Value × Mem} {host : String} (hd : decode t.2.2.1 pc = .ok (.invokestatic idx, 3)) (hc : CT t2 d2 as M res) (hs : MS t2 n) (hw : Cond.methodLinkNest t.1 idx t2.2.1 host ∈ nestW) (hlen : as.length = n) (hdd : d2 + 1 ≤ d) (hst : stk = as.reverse ++ st) (hcat : (st.map fun v => v.category).sum ≤ 8) (k : AWP F t (pc + 3) lv (res.1.toList ++ st) res.2) : AWP F t pc lv stk M := by
  rintro ⟨p, l, e, R, s, m, args, below, meth, c, A, D, tt, ad, mc, ms, Qf⟩ hX H locs ls hP hD hS hl
  obtain ⟨hx, hb, hml, hown, hts, hK, hA, hE, hroom⟩ := hF _ hX
  subst hst
  obtain ⟨hs1, hs2, hs3, hs4, hs5⟩ := hs
  obtain ⟨hr1, hr2, hr3, hr4⟩ := hroom
  have hR : (rmD d2).frames + 1 ≤ R.frames ∧ 8 + (t2.2.2.2.1 + 11) + (rmD d2).locals ≤ R.locals := by
    show d2 + 1 ≤ R.frames ∧ 8 + (t2.2.2.2.1 + 11) + 64 * d2 ≤ R.locals
    omega
  have hAB : ∀ q, va_A (cW ad tt M) H.size q → A q := by
    intro q h
    rcases h with ⟨k2, e2, h⟩ | h
    · exact hD.2 k2 _ h
    · exact hA q (Nat.le_trans hS.1 h)
  have hpre : ∀ U : State, U.heap = H → s.WarmedH U.vm → va_Pc (as.map (cv ad)) (PreB D tt ad H.size M) (as.map (cv ad)).toArray U := fun U hU hW => ⟨rfl, by rw [hU], by rw [hU]; exact hP, va_K.moved hW.alike hK, hD.weaken (fun _ _ _ _ => trivial), EV.pass hE hS hU hW hAB⟩
  refine r_after (a := (as.map (cv ad)).toArray) hD hS hA hl (va_runSN (As := as.map (cv ad)) (rest := st.map (cv ad)) ⟨hx, hb, hml, hown, hts⟩ (hc l D tt ad H.size) ⟨va_cnB n hts (goodB (t := t) hs1) rfl rfl rfl (hE.1 _ hw) (hts _ hs3) hs4 hR, hts _ hs2, trivial⟩ ⟨blindB, hpre⟩ rfl (by rw [List.length_map]; exact hlen) hl.1 (by show ((as.reverse ++ st).map (cv ad)) = _; rw [List.map_append, List.map_reverse]) (lv_room (by rw [r_catsum]; exact hcat)) hd ⟨by omega, by omega⟩) (k _ hX)
theorem r_callV (hF : Bs F t d) {t2 : MT} {d2 n idx : Nat} {as stk : List Value} {res : Option Value × Mem} {b ci N : Nat} {C : String} {T : u_T} {fs : List (Option (Option Nat))} (hd : decode t.2.2.1 pc = .ok (.invokevirtual idx, 3)) (hc : CT t2 d2 (.ref b :: as) M res) (hs : MV t2 n) (hw : Cond.methodLink t.1 idx t2.2.1 ∈ GW) (hlen : as.length = n) (hdd : d2 + 1 ≤ d) (hst : stk = as.reverse ++ .ref b :: st) (hcat : (st.map fun v => v.category).sum ≤ 8) (hsh : SH[b]? = some (.inl (ci, fs))) (hcl : classes[ci]? = some (C, T, N)) (hC : t2.2.1.cls = C) (k : AWP F t (pc + 3) lv (res.1.toList ++ st) res.2) : AWP F t pc lv stk M := by
  rintro ⟨p, l, e, R, s, m, args, below, meth, c, A, D, tt, ad, mc, ms, Qf⟩ hX H locs ls hP hD hS hl
  obtain ⟨hx, hb, hml, hown, hts, hK, hA, hE, hroom⟩ := hF _ hX
  subst hst
  obtain ⟨hs1, hs2, hs3, hs4, hs5⟩ := hs
  obtain ⟨hr1, hr2, hr3, hr4⟩ := hroom
  have hR : (rmD d2).frames + 1 ≤ R.frames ∧ 8 + (t2.2.2.2.1 + 11) + (rmD d2).locals ≤ R.locals := by
    show d2 + 1 ≤ R.frames ∧ 8 + (t2.2.2.2.1 + 11) + 64 * d2 ≤ R.locals
    omega
  have hAB : ∀ q, va_A (cW ad tt M) H.size q → A q := by
    intro q h
    rcases h with ⟨k2, e2, h⟩ | h
    · exact hD.2 k2 _ h
    · exact hA q (Nat.le_trans hS.1 h)
  have hpre : ∀ U : State, U.heap = H → s.WarmedH U.vm → va_Pc ((Value.ref b :: as).map (cv ad)) (PreB D tt ad H.size M) ((Value.ref b :: as).map (cv ad)).toArray U := fun U hU hW => ⟨rfl, by rw [hU], by rw [hU]; exact hP, va_K.moved hW.alike hK, hD.weaken (fun _ _ _ _ => trivial), EV.pass hE hS hU hW hAB⟩
  subst hC
  refine r_after (a := ((Value.ref b :: as).map (cv ad)).toArray) hD hS hA hl (va_runV (As := as.map (cv ad)) (rest := st.map (cv ad)) (b := ad b) ⟨hx, hb, hml, hown, hts⟩ (hc l D tt ad H.size) ⟨callB_of n hts (goodB (t := t) hs1) rfl rfl rfl (hts _ hs3) (hts _ hw) hs4 hR, hts _ hs2.1, hts _ hs2.2⟩ ⟨blindB, va_recv hK hP hcl (cW_at hsh), hpre⟩ rfl (by rw [List.length_map]; exact hlen) hl.1 (by show ((as.reverse ++ Value.ref b :: st).map (cv ad)) = _; rw [List.map_append, List.map_reverse]; rfl) (lv_room (by rw [r_catsum]; exact hcat)) hd ⟨by omega, by omega⟩) (k _ hX)
end ROWS2
section ENDS
variable {t : MT} {d pc : Nat} {lv : List (Nat × Value)} {M M0 : Mem}
theorem r_iret {v : Int32} (hd : decode t.2.2.1 pc = .ok (.ireturn, 1)) (hr0 : t.2.2.2.2 = some .int) : AWP (MF t d M0 (some (.int v), M)) t pc lv [.int v] M := by
  rintro ⟨p, l, e, R, s, m, args, below, meth, c, A, D, tt, ad, mc, ms, Qf⟩ hX H locs ls hP hD hS hl
  obtain ⟨⟨hx, hb, hml, hown, hts, hK, hA, hE, hroom⟩, hr, hlk, rfl, rfl, rfl, rfl⟩ := hX
  exact W.iret hx hb (hr.trans hr0) (fun t ht hW => ⟨⟨rfl, by rw [ht]; exact hP, va_K.moved hW.alike hK, hD⟩, hS.F ht⟩) hS.2.2 hd hlk
theorem r_zret {v : Int32} {ty : FieldType} (hd : decode t.2.2.1 pc = .ok (.ireturn, 1)) (hr0 : t.2.2.2.2 = some ty) (hn : narrow ty (.int v) = .int v) : AWP (MF t d M0 (some (.int v), M)) t pc lv [.int v] M := by
  rintro ⟨p, l, e, R, s, m, args, below, meth, c, A, D, tt, ad, mc, ms, Qf⟩ hX H locs ls hP hD hS hl
  obtain ⟨⟨hx, hb, hml, hown, hts, hK, hA, hE, hroom⟩, hr, hlk, rfl, rfl, rfl, rfl⟩ := hX
  exact W.zret hx hb (hr.trans hr0) hn (fun t ht hW => ⟨⟨rfl, by rw [ht]; exact hP, va_K.moved hW.alike hK, hD⟩, hS.F ht⟩) hS.2.2 hd hlk
theorem r_lret {v : Int64} (hd : decode t.2.2.1 pc = .ok (.lreturn, 1)) (hr0 : t.2.2.2.2 = some .long) : AWP (MF t d M0 (some (.long v), M)) t pc lv [.long v] M := by
  rintro ⟨p, l, e, R, s, m, args, below, meth, c, A, D, tt, ad, mc, ms, Qf⟩ hX H locs ls hP hD hS hl
  obtain ⟨⟨hx, hb, hml, hown, hts, hK, hA, hE, hroom⟩, hr, hlk, rfl, rfl, rfl, rfl⟩ := hX
  exact W.lret hx hb (hr.trans hr0) (fun t ht hW => ⟨⟨rfl, by rw [ht]; exact hP, va_K.moved hW.alike hK, hD⟩, hS.F ht⟩) hS.2.2 hd hlk
theorem r_vret (hd : decode t.2.2.1 pc = .ok (.return_, 1)) (hr0 : t.2.2.2.2 = none) : AWP (MF t d M0 (none, M)) t pc lv [] M := by
  rintro ⟨p, l, e, R, s, m, args, below, meth, c, A, D, tt, ad, mc, ms, Qf⟩ hX H locs ls hP hD hS hl
  obtain ⟨⟨hx, hb, hml, hown, hts, hK, hA, hE, hroom⟩, hr, hlk, rfl, rfl, rfl, rfl⟩ := hX
  exact W.vret hx hb (hr.trans hr0) (fun t ht hW => ⟨⟨rfl, by rw [ht]; exact hP, va_K.moved hW.alike hK, hD⟩, hS.F ht⟩) hS.2.2 hd hlk
theorem r_aret {v : Value} {C : String} (hd : decode t.2.2.1 pc = .ok (.areturn, 1)) (hr0 : t.2.2.2.2 = some (.object C)) (hv : v = .null ∨ ∃ a, v = .ref a) : AWP (MF t d M0 (some v, M)) t pc lv [v] M := by
  rintro ⟨p, l, e, R, s, m, args, below, meth, c, A, D, tt, ad, mc, ms, Qf⟩ hX H locs ls hP hD hS hl
  obtain ⟨⟨hx, hb, hml, hown, hts, hK, hA, hE, hroom⟩, hr, hlk, rfl, rfl, rfl, rfl⟩ := hX
  exact W.aret hx hb (hr.trans hr0) (Or.inl ⟨_, rfl⟩) (by rcases hv with rfl | ⟨a, rfl⟩; exact Or.inl rfl; exact Or.inr ⟨_, rfl⟩) (fun t ht hW => ⟨⟨rfl, by rw [ht]; exact hP, va_K.moved hW.alike hK, hD⟩, hS.F ht⟩) hS.2.2 hd hlk
theorem r_ite {α : Type} (G : α → Cx → Prop) {c : Prop} [Decidable c] {T1 T2 : α} {st : List Value} (k1 : c → AWP (G T1) t pc lv st M) (k2 : ¬ c → AWP (G T2) t pc lv st M) : AWP (G (if c then T1 else T2)) t pc lv st M := by
  by_cases h : c
  · rw [if_pos h]; exact k1 h
  · rw [if_neg h]; exact k2 h
end ENDS
abbrev GI (t : MT) (d : Nat) (M0 M : Mem) (z : Int32) : Cx → Prop := MF t d M0 (some (.int z), M)
abbrev GB (t : MT) (d : Nat) (M0 M : Mem) (z : Bool) : Cx → Prop := MF t d M0 (some (.int (b2i z)), M)
abbrev GL (t : MT) (d : Nat) (M0 M : Mem) (z : Int64) : Cx → Prop := MF t d M0 (some (.long z), M)
abbrev GIM (t : MT) (d : Nat) (M0 : Mem) (z : Int32 × Mem) : Cx → Prop := MF t d M0 (some (.int z.1), z.2)
abbrev GBM (t : MT) (d : Nat) (M0 : Mem) (z : Bool × Mem) : Cx → Prop := MF t d M0 (some (.int (b2i z.1)), z.2)
abbrev GV (t : MT) (d : Nat) (M0 : Mem) (z : Mem) : Cx → Prop := MF t d M0 (none, z)
theorem MF.bs' {t : MT} {d : Nat} {M0 : Mem} {res : Option Value × Mem} : Bs (MF t d M0 res) t d := MF.bs
end
