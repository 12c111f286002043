section
-- ===== PART A: goes FIRST, ahead of the names: the tables' words, and 'selects' of the private methods out of them =====
/-- a private method of a class that the tables say can be made, by its rows of tables_1 -/
def lw_okq (q : MethodName × Nat) : Prop := (q.1.cls ≠ "java/lang/invoke/MethodHandle" ∧ q.1.cls ≠ "java/lang/invoke/VarHandle") ∧ Cond.instantiable q.1.cls q.2 ∈ tables_1 ∧ Cond.privateMethod q.1 ∈ tables_1 ∧ Cond.instanceMethod q.1 ∈ tables_1
theorem lw_p0 : lw_okq (⟨"FarfilesLaw", "holdsAll", "([I)Z"⟩, 5) := ⟨⟨by decide +kernel, by decide +kernel⟩, List.mem_of_getElem? (i := 31) (by decide +kernel), List.mem_of_getElem? (i := 310) (by decide +kernel), List.mem_of_getElem? (i := 311) (by decide +kernel)⟩
theorem lw_p1 : lw_okq (⟨"FarfilesLaw", "draw", "(I)I"⟩, 5) := ⟨⟨by decide +kernel, by decide +kernel⟩, List.mem_of_getElem? (i := 31) (by decide +kernel), List.mem_of_getElem? (i := 314) (by decide +kernel), List.mem_of_getElem? (i := 315) (by decide +kernel)⟩
theorem lw_p2 : lw_okq (⟨"FarfilesLaw", "areStored", "()Z"⟩, 5) := ⟨⟨by decide +kernel, by decide +kernel⟩, List.mem_of_getElem? (i := 31) (by decide +kernel), List.mem_of_getElem? (i := 333) (by decide +kernel), List.mem_of_getElem? (i := 334) (by decide +kernel)⟩
theorem lw_p3 : lw_okq (⟨"FarfilesLaw", "name", "()Ljava/lang/String;"⟩, 5) := ⟨⟨by decide +kernel, by decide +kernel⟩, List.mem_of_getElem? (i := 31) (by decide +kernel), List.mem_of_getElem? (i := 337) (by decide +kernel), List.mem_of_getElem? (i := 338) (by decide +kernel)⟩
theorem lw_p4 : lw_okq (⟨"FarfilesLaw", "word", "()Ljava/lang/String;"⟩, 5) := ⟨⟨by decide +kernel, by decide +kernel⟩, List.mem_of_getElem? (i := 31) (by decide +kernel), List.mem_of_getElem? (i := 576) (by decide +kernel), List.mem_of_getElem? (i := 577) (by decide +kernel)⟩
theorem lw_p5 : lw_okq (⟨"FarfilesLaw", "links", "(IZ)V"⟩, 5) := ⟨⟨by decide +kernel, by decide +kernel⟩, List.mem_of_getElem? (i := 31) (by decide +kernel), List.mem_of_getElem? (i := 605) (by decide +kernel), List.mem_of_getElem? (i := 606) (by decide +kernel)⟩
theorem lw_p6 : lw_okq (⟨"Farfiles", "clientOf", "(I)LFarfiles$Client;"⟩, 16) := ⟨⟨by decide +kernel, by decide +kernel⟩, List.mem_of_getElem? (i := 39) (by decide +kernel), List.mem_of_getElem? (i := 613) (by decide +kernel), List.mem_of_getElem? (i := 614) (by decide +kernel)⟩
theorem lw_p7 : lw_okq (⟨"java/lang/Throwable", "fillInStackTrace", "(I)Ljava/lang/Throwable;"⟩, 6) := ⟨⟨by decide +kernel, by decide +kernel⟩, List.mem_of_getElem? (i := 657) (by decide +kernel), List.mem_of_getElem? (i := 655) (by decide +kernel), List.mem_of_getElem? (i := 656) (by decide +kernel)⟩
theorem lw_p8 : lw_okq (⟨"FarfilesLaw", "types", "(Ljava/lang/String;)V"⟩, 5) := ⟨⟨by decide +kernel, by decide +kernel⟩, List.mem_of_getElem? (i := 31) (by decide +kernel), List.mem_of_getElem? (i := 687) (by decide +kernel), List.mem_of_getElem? (i := 688) (by decide +kernel)⟩
theorem lw_p9 : lw_okq (⟨"Farfiles", "callerOf", "(I)LFarfiles$Client;"⟩, 16) := ⟨⟨by decide +kernel, by decide +kernel⟩, List.mem_of_getElem? (i := 39) (by decide +kernel), List.mem_of_getElem? (i := 762) (by decide +kernel), List.mem_of_getElem? (i := 763) (by decide +kernel)⟩
theorem lw_p10 : lw_okq (⟨"Farfiles", "takePathOfLetters", "()I"⟩, 16) := ⟨⟨by decide +kernel, by decide +kernel⟩, List.mem_of_getElem? (i := 39) (by decide +kernel), List.mem_of_getElem? (i := 770) (by decide +kernel), List.mem_of_getElem? (i := 771) (by decide +kernel)⟩
theorem lw_p11 : lw_okq (⟨"Farfiles", "takePath", "()I"⟩, 16) := ⟨⟨by decide +kernel, by decide +kernel⟩, List.mem_of_getElem? (i := 39) (by decide +kernel), List.mem_of_getElem? (i := 774) (by decide +kernel), List.mem_of_getElem? (i := 775) (by decide +kernel)⟩
theorem lw_p12 : lw_okq (⟨"Farfiles", "goToDirectory", "(LFarfiles$Client;LFarfiles$Path;)I"⟩, 16) := ⟨⟨by decide +kernel, by decide +kernel⟩, List.mem_of_getElem? (i := 39) (by decide +kernel), List.mem_of_getElem? (i := 818) (by decide +kernel), List.mem_of_getElem? (i := 819) (by decide +kernel)⟩
theorem lw_p13 : lw_okq (⟨"Farfiles", "refuse", "(C)V"⟩, 16) := ⟨⟨by decide +kernel, by decide +kernel⟩, List.mem_of_getElem? (i := 39) (by decide +kernel), List.mem_of_getElem? (i := 822) (by decide +kernel), List.mem_of_getElem? (i := 823) (by decide +kernel)⟩
theorem lw_p14 : lw_okq (⟨"Farfiles", "go", "(LFarfiles$Client;LFarfiles$Path;I)I"⟩, 16) := ⟨⟨by decide +kernel, by decide +kernel⟩, List.mem_of_getElem? (i := 39) (by decide +kernel), List.mem_of_getElem? (i := 842) (by decide +kernel), List.mem_of_getElem? (i := 843) (by decide +kernel)⟩
theorem lw_p15 : lw_okq (⟨"Farfiles", "lookAt", "(LFarfiles$Client;I)V"⟩, 16) := ⟨⟨by decide +kernel, by decide +kernel⟩, List.mem_of_getElem? (i := 39) (by decide +kernel), List.mem_of_getElem? (i := 846) (by decide +kernel), List.mem_of_getElem? (i := 847) (by decide +kernel)⟩
def lw_privs_1 : List (MethodName × Nat) := [(⟨"FarfilesLaw", "holdsAll", "([I)Z"⟩, 5), (⟨"FarfilesLaw", "draw", "(I)I"⟩, 5), (⟨"FarfilesLaw", "areStored", "()Z"⟩, 5), (⟨"FarfilesLaw", "name", "()Ljava/lang/String;"⟩, 5), (⟨"FarfilesLaw", "word", "()Ljava/lang/String;"⟩, 5), (⟨"FarfilesLaw", "links", "(IZ)V"⟩, 5), (⟨"Farfiles", "clientOf", "(I)LFarfiles$Client;"⟩, 16), (⟨"java/lang/Throwable", "fillInStackTrace", "(I)Ljava/lang/Throwable;"⟩, 6), (⟨"FarfilesLaw", "types", "(Ljava/lang/String;)V"⟩, 5), (⟨"Farfiles", "callerOf", "(I)LFarfiles$Client;"⟩, 16), (⟨"Farfiles", "takePathOfLetters", "()I"⟩, 16), (⟨"Farfiles", "takePath", "()I"⟩, 16), (⟨"Farfiles", "goToDirectory", "(LFarfiles$Client;LFarfiles$Path;)I"⟩, 16), (⟨"Farfiles", "refuse", "(C)V"⟩, 16), (⟨"Farfiles", "go", "(LFarfiles$Client;LFarfiles$Path;I)I"⟩, 16), (⟨"Farfiles", "lookAt", "(LFarfiles$Client;I)V"⟩, 16)]
theorem lw_r1 : ∀ q ∈ lw_privs_1, lw_okq q := List.forall_mem_cons.mpr ⟨lw_p0, List.forall_mem_cons.mpr ⟨lw_p1, List.forall_mem_cons.mpr ⟨lw_p2, List.forall_mem_cons.mpr ⟨lw_p3, List.forall_mem_cons.mpr ⟨lw_p4, List.forall_mem_cons.mpr ⟨lw_p5, List.forall_mem_cons.mpr ⟨lw_p6, List.forall_mem_cons.mpr ⟨lw_p7, List.forall_mem_cons.mpr ⟨lw_p8, List.forall_mem_cons.mpr ⟨lw_p9, List.forall_mem_cons.mpr ⟨lw_p10, List.forall_mem_cons.mpr ⟨lw_p11, List.forall_mem_cons.mpr ⟨lw_p12, List.forall_mem_cons.mpr ⟨lw_p13, List.forall_mem_cons.mpr ⟨lw_p14, List.forall_mem_cons.mpr ⟨lw_p15, fun _ h => absurd h List.not_mem_nil⟩⟩⟩⟩⟩⟩⟩⟩⟩⟩⟩⟩⟩⟩⟩⟩
theorem lw_p16 : lw_okq (⟨"Farfiles$Client", "goesAhead", "(II)Z"⟩, 12) := ⟨⟨by decide +kernel, by decide +kernel⟩, List.mem_of_getElem? (i := 195) (by decide +kernel), List.mem_of_getElem? (i := 881) (by decide +kernel), List.mem_of_getElem? (i := 882) (by decide +kernel)⟩
theorem lw_p17 : lw_okq (⟨"Farfiles", "nextOf", "(LFarfiles$Client;II)I"⟩, 16) := ⟨⟨by decide +kernel, by decide +kernel⟩, List.mem_of_getElem? (i := 39) (by decide +kernel), List.mem_of_getElem? (i := 919) (by decide +kernel), List.mem_of_getElem? (i := 920) (by decide +kernel)⟩
theorem lw_p18 : lw_okq (⟨"Farfiles", "hasDirectory", "(I)Z"⟩, 16) := ⟨⟨by decide +kernel, by decide +kernel⟩, List.mem_of_getElem? (i := 39) (by decide +kernel), List.mem_of_getElem? (i := 923) (by decide +kernel), List.mem_of_getElem? (i := 924) (by decide +kernel)⟩
theorem lw_p19 : lw_okq (⟨"Farfiles$Log", "gather", "(LFarfiles$ActSet;I)V"⟩, 5) := ⟨⟨by decide +kernel, by decide +kernel⟩, List.mem_of_getElem? (i := 60) (by decide +kernel), List.mem_of_getElem? (i := 932) (by decide +kernel), List.mem_of_getElem? (i := 933) (by decide +kernel)⟩
theorem lw_p20 : lw_okq (⟨"Farfiles$Log", "toldName", "(LFarfiles$Act;)I"⟩, 5) := ⟨⟨by decide +kernel, by decide +kernel⟩, List.mem_of_getElem? (i := 60) (by decide +kernel), List.mem_of_getElem? (i := 951) (by decide +kernel), List.mem_of_getElem? (i := 952) (by decide +kernel)⟩
theorem lw_p21 : lw_okq (⟨"Farfiles", "makeIn", "(LFarfiles$Client;IZ)I"⟩, 16) := ⟨⟨by decide +kernel, by decide +kernel⟩, List.mem_of_getElem? (i := 39) (by decide +kernel), List.mem_of_getElem? (i := 956) (by decide +kernel), List.mem_of_getElem? (i := 957) (by decide +kernel)⟩
theorem lw_p22 : lw_okq (⟨"Farfiles", "refuseIfThere", "(LFarfiles$Client;II)V"⟩, 16) := ⟨⟨by decide +kernel, by decide +kernel⟩, List.mem_of_getElem? (i := 39) (by decide +kernel), List.mem_of_getElem? (i := 965) (by decide +kernel), List.mem_of_getElem? (i := 966) (by decide +kernel)⟩
theorem lw_p23 : lw_okq (⟨"Farfiles", "refuseIfTooFew", "(I)V"⟩, 16) := ⟨⟨by decide +kernel, by decide +kernel⟩, List.mem_of_getElem? (i := 39) (by decide +kernel), List.mem_of_getElem? (i := 969) (by decide +kernel), List.mem_of_getElem? (i := 970) (by decide +kernel)⟩
theorem lw_p24 : lw_okq (⟨"Farfiles", "addEntry", "(LFarfiles$Client;III)V"⟩, 16) := ⟨⟨by decide +kernel, by decide +kernel⟩, List.mem_of_getElem? (i := 39) (by decide +kernel), List.mem_of_getElem? (i := 977) (by decide +kernel), List.mem_of_getElem? (i := 978) (by decide +kernel)⟩
theorem lw_p25 : lw_okq (⟨"Farfiles", "enter", "(LFarfiles$Client;LFarfiles$Act;)I"⟩, 16) := ⟨⟨by decide +kernel, by decide +kernel⟩, List.mem_of_getElem? (i := 39) (by decide +kernel), List.mem_of_getElem? (i := 984) (by decide +kernel), List.mem_of_getElem? (i := 985) (by decide +kernel)⟩
theorem lw_p26 : lw_okq (⟨"Farfiles$Log", "takeAddsLike", "(LFarfiles$Act;LFarfiles$Act;)V"⟩, 5) := ⟨⟨by decide +kernel, by decide +kernel⟩, List.mem_of_getElem? (i := 60) (by decide +kernel), List.mem_of_getElem? (i := 995) (by decide +kernel), List.mem_of_getElem? (i := 996) (by decide +kernel)⟩
theorem lw_p27 : lw_okq (⟨"Farfiles", "bringSome", "(LFarfiles$Client;I)I"⟩, 16) := ⟨⟨by decide +kernel, by decide +kernel⟩, List.mem_of_getElem? (i := 39) (by decide +kernel), List.mem_of_getElem? (i := 1007) (by decide +kernel), List.mem_of_getElem? (i := 1008) (by decide +kernel)⟩
theorem lw_p28 : lw_okq (⟨"Farfiles", "actOf", "(I)LFarfiles$Act;"⟩, 16) := ⟨⟨by decide +kernel, by decide +kernel⟩, List.mem_of_getElem? (i := 39) (by decide +kernel), List.mem_of_getElem? (i := 1020) (by decide +kernel), List.mem_of_getElem? (i := 1021) (by decide +kernel)⟩
theorem lw_p29 : lw_okq (⟨"Farfiles", "goOn", "(LFarfiles$Client;LFarfiles$Path;I)I"⟩, 16) := ⟨⟨by decide +kernel, by decide +kernel⟩, List.mem_of_getElem? (i := 39) (by decide +kernel), List.mem_of_getElem? (i := 1054) (by decide +kernel), List.mem_of_getElem? (i := 1055) (by decide +kernel)⟩
theorem lw_p30 : lw_okq (⟨"FarfilesLaw", "brings", "(I)V"⟩, 5) := ⟨⟨by decide +kernel, by decide +kernel⟩, List.mem_of_getElem? (i := 31) (by decide +kernel), List.mem_of_getElem? (i := 1062) (by decide +kernel), List.mem_of_getElem? (i := 1063) (by decide +kernel)⟩
theorem lw_p31 : lw_okq (⟨"FarfilesLaw", "hears", "()Z"⟩, 5) := ⟨⟨by decide +kernel, by decide +kernel⟩, List.mem_of_getElem? (i := 31) (by decide +kernel), List.mem_of_getElem? (i := 1086) (by decide +kernel), List.mem_of_getElem? (i := 1087) (by decide +kernel)⟩
def lw_privs_2 : List (MethodName × Nat) := [(⟨"Farfiles$Client", "goesAhead", "(II)Z"⟩, 12), (⟨"Farfiles", "nextOf", "(LFarfiles$Client;II)I"⟩, 16), (⟨"Farfiles", "hasDirectory", "(I)Z"⟩, 16), (⟨"Farfiles$Log", "gather", "(LFarfiles$ActSet;I)V"⟩, 5), (⟨"Farfiles$Log", "toldName", "(LFarfiles$Act;)I"⟩, 5), (⟨"Farfiles", "makeIn", "(LFarfiles$Client;IZ)I"⟩, 16), (⟨"Farfiles", "refuseIfThere", "(LFarfiles$Client;II)V"⟩, 16), (⟨"Farfiles", "refuseIfTooFew", "(I)V"⟩, 16), (⟨"Farfiles", "addEntry", "(LFarfiles$Client;III)V"⟩, 16), (⟨"Farfiles", "enter", "(LFarfiles$Client;LFarfiles$Act;)I"⟩, 16), (⟨"Farfiles$Log", "takeAddsLike", "(LFarfiles$Act;LFarfiles$Act;)V"⟩, 5), (⟨"Farfiles", "bringSome", "(LFarfiles$Client;I)I"⟩, 16), (⟨"Farfiles", "actOf", "(I)LFarfiles$Act;"⟩, 16), (⟨"Farfiles", "goOn", "(LFarfiles$Client;LFarfiles$Path;I)I"⟩, 16), (⟨"FarfilesLaw", "brings", "(I)V"⟩, 5), (⟨"FarfilesLaw", "hears", "()Z"⟩, 5)]
theorem lw_r2 : ∀ q ∈ lw_privs_2, lw_okq q := List.forall_mem_cons.mpr ⟨lw_p16, List.forall_mem_cons.mpr ⟨lw_p17, List.forall_mem_cons.mpr ⟨lw_p18, List.forall_mem_cons.mpr ⟨lw_p19, List.forall_mem_cons.mpr ⟨lw_p20, List.forall_mem_cons.mpr ⟨lw_p21, List.forall_mem_cons.mpr ⟨lw_p22, List.forall_mem_cons.mpr ⟨lw_p23, List.forall_mem_cons.mpr ⟨lw_p24, List.forall_mem_cons.mpr ⟨lw_p25, List.forall_mem_cons.mpr ⟨lw_p26, List.forall_mem_cons.mpr ⟨lw_p27, List.forall_mem_cons.mpr ⟨lw_p28, List.forall_mem_cons.mpr ⟨lw_p29, List.forall_mem_cons.mpr ⟨lw_p30, List.forall_mem_cons.mpr ⟨lw_p31, fun _ h => absurd h List.not_mem_nil⟩⟩⟩⟩⟩⟩⟩⟩⟩⟩⟩⟩⟩⟩⟩⟩
theorem lw_p32 : lw_okq (⟨"Farfiles", "wireOf", "(II)I"⟩, 16) := ⟨⟨by decide +kernel, by decide +kernel⟩, List.mem_of_getElem? (i := 39) (by decide +kernel), List.mem_of_getElem? (i := 1094) (by decide +kernel), List.mem_of_getElem? (i := 1095) (by decide +kernel)⟩
theorem lw_p33 : lw_okq (⟨"Farfiles", "serverOf", "(I)LFarfiles$ActSet;"⟩, 16) := ⟨⟨by decide +kernel, by decide +kernel⟩, List.mem_of_getElem? (i := 39) (by decide +kernel), List.mem_of_getElem? (i := 1104) (by decide +kernel), List.mem_of_getElem? (i := 1105) (by decide +kernel)⟩
theorem lw_p34 : lw_okq (⟨"FarfilesLaw", "isText", "(ILjava/lang/String;Ljava/lang/String;)Z"⟩, 5) := ⟨⟨by decide +kernel, by decide +kernel⟩, List.mem_of_getElem? (i := 31) (by decide +kernel), List.mem_of_getElem? (i := 1121) (by decide +kernel), List.mem_of_getElem? (i := 1122) (by decide +kernel)⟩
theorem lw_p35 : lw_okq (⟨"Farfiles", "tellFound", "(LFarfiles$Client;Z)I"⟩, 16) := ⟨⟨by decide +kernel, by decide +kernel⟩, List.mem_of_getElem? (i := 39) (by decide +kernel), List.mem_of_getElem? (i := 1129) (by decide +kernel), List.mem_of_getElem? (i := 1130) (by decide +kernel)⟩
theorem lw_p36 : lw_okq (⟨"Farfiles", "tellOf", "(LFarfiles$ActSet;I)I"⟩, 16) := ⟨⟨by decide +kernel, by decide +kernel⟩, List.mem_of_getElem? (i := 39) (by decide +kernel), List.mem_of_getElem? (i := 1133) (by decide +kernel), List.mem_of_getElem? (i := 1134) (by decide +kernel)⟩
theorem lw_p37 : lw_okq (⟨"Farfiles$Answers", "putAt", "(ILFarfiles$Act;II)V"⟩, 4) := ⟨⟨by decide +kernel, by decide +kernel⟩, List.mem_of_getElem? (i := 144) (by decide +kernel), List.mem_of_getElem? (i := 1149) (by decide +kernel), List.mem_of_getElem? (i := 1150) (by decide +kernel)⟩
theorem lw_p38 : lw_okq (⟨"Farfiles", "hasObject", "(I)Z"⟩, 16) := ⟨⟨by decide +kernel, by decide +kernel⟩, List.mem_of_getElem? (i := 39) (by decide +kernel), List.mem_of_getElem? (i := 1210) (by decide +kernel), List.mem_of_getElem? (i := 1211) (by decide +kernel)⟩
theorem lw_p39 : lw_okq (⟨"FarfilesLaw", "isLost", "()Z"⟩, 5) := ⟨⟨by decide +kernel, by decide +kernel⟩, List.mem_of_getElem? (i := 31) (by decide +kernel), List.mem_of_getElem? (i := 1215) (by decide +kernel), List.mem_of_getElem? (i := 1216) (by decide +kernel)⟩
theorem lw_p40 : lw_okq (⟨"Farfiles", "cutEntries", "(LFarfiles$Client;III)V"⟩, 16) := ⟨⟨by decide +kernel, by decide +kernel⟩, List.mem_of_getElem? (i := 39) (by decide +kernel), List.mem_of_getElem? (i := 1238) (by decide +kernel), List.mem_of_getElem? (i := 1239) (by decide +kernel)⟩
theorem lw_p41 : lw_okq (⟨"Farfiles", "markLost", "(LFarfiles$ActSet;[Z)V"⟩, 16) := ⟨⟨by decide +kernel, by decide +kernel⟩, List.mem_of_getElem? (i := 39) (by decide +kernel), List.mem_of_getElem? (i := 1246) (by decide +kernel), List.mem_of_getElem? (i := 1247) (by decide +kernel)⟩
theorem lw_p42 : lw_okq (⟨"Farfiles", "markWays", "(LFarfiles$ActSet;)V"⟩, 16) := ⟨⟨by decide +kernel, by decide +kernel⟩, List.mem_of_getElem? (i := 39) (by decide +kernel), List.mem_of_getElem? (i := 1250) (by decide +kernel), List.mem_of_getElem? (i := 1251) (by decide +kernel)⟩
theorem lw_p43 : lw_okq (⟨"FarfilesLaw", "isRenamed", "()Z"⟩, 5) := ⟨⟨by decide +kernel, by decide +kernel⟩, List.mem_of_getElem? (i := 31) (by decide +kernel), List.mem_of_getElem? (i := 1276) (by decide +kernel), List.mem_of_getElem? (i := 1277) (by decide +kernel)⟩
theorem lw_p44 : lw_okq (⟨"Farfiles", "takeTwoPaths", "()I"⟩, 16) := ⟨⟨by decide +kernel, by decide +kernel⟩, List.mem_of_getElem? (i := 39) (by decide +kernel), List.mem_of_getElem? (i := 1287) (by decide +kernel), List.mem_of_getElem? (i := 1288) (by decide +kernel)⟩
theorem lw_p45 : lw_okq (⟨"Farfiles", "isHoldSound", "(LFarfiles$Client;)Z"⟩, 16) := ⟨⟨by decide +kernel, by decide +kernel⟩, List.mem_of_getElem? (i := 39) (by decide +kernel), List.mem_of_getElem? (i := 1309) (by decide +kernel), List.mem_of_getElem? (i := 1310) (by decide +kernel)⟩
theorem lw_p46 : lw_okq (⟨"Farfiles", "isLostAlike", "(LFarfiles$ActSet;LFarfiles$ActSet;)Z"⟩, 16) := ⟨⟨by decide +kernel, by decide +kernel⟩, List.mem_of_getElem? (i := 39) (by decide +kernel), List.mem_of_getElem? (i := 1313) (by decide +kernel), List.mem_of_getElem? (i := 1314) (by decide +kernel)⟩
def lw_privs_3 : List (MethodName × Nat) := [(⟨"Farfiles", "wireOf", "(II)I"⟩, 16), (⟨"Farfiles", "serverOf", "(I)LFarfiles$ActSet;"⟩, 16), (⟨"FarfilesLaw", "isText", "(ILjava/lang/String;Ljava/lang/String;)Z"⟩, 5), (⟨"Farfiles", "tellFound", "(LFarfiles$Client;Z)I"⟩, 16), (⟨"Farfiles", "tellOf", "(LFarfiles$ActSet;I)I"⟩, 16), (⟨"Farfiles$Answers", "putAt", "(ILFarfiles$Act;II)V"⟩, 4), (⟨"Farfiles", "hasObject", "(I)Z"⟩, 16), (⟨"FarfilesLaw", "isLost", "()Z"⟩, 5), (⟨"Farfiles", "cutEntries", "(LFarfiles$Client;III)V"⟩, 16), (⟨"Farfiles", "markLost", "(LFarfiles$ActSet;[Z)V"⟩, 16), (⟨"Farfiles", "markWays", "(LFarfiles$ActSet;)V"⟩, 16), (⟨"FarfilesLaw", "isRenamed", "()Z"⟩, 5), (⟨"Farfiles", "takeTwoPaths", "()I"⟩, 16), (⟨"Farfiles", "isHoldSound", "(LFarfiles$Client;)Z"⟩, 16), (⟨"Farfiles", "isLostAlike", "(LFarfiles$ActSet;LFarfiles$ActSet;)Z"⟩, 16)]
theorem lw_r3 : ∀ q ∈ lw_privs_3, lw_okq q := List.forall_mem_cons.mpr ⟨lw_p32, List.forall_mem_cons.mpr ⟨lw_p33, List.forall_mem_cons.mpr ⟨lw_p34, List.forall_mem_cons.mpr ⟨lw_p35, List.forall_mem_cons.mpr ⟨lw_p36, List.forall_mem_cons.mpr ⟨lw_p37, List.forall_mem_cons.mpr ⟨lw_p38, List.forall_mem_cons.mpr ⟨lw_p39, List.forall_mem_cons.mpr ⟨lw_p40, List.forall_mem_cons.mpr ⟨lw_p41, List.forall_mem_cons.mpr ⟨lw_p42, List.forall_mem_cons.mpr ⟨lw_p43, List.forall_mem_cons.mpr ⟨lw_p44, List.forall_mem_cons.mpr ⟨lw_p45, List.forall_mem_cons.mpr ⟨lw_p46, fun _ h => absurd h List.not_mem_nil⟩⟩⟩⟩⟩⟩⟩⟩⟩⟩⟩⟩⟩⟩⟩
def lw_privs : List (MethodName × Nat) := lw_privs_1 ++ (lw_privs_2 ++ (lw_privs_3))
def lw_tbl : List Cond := k2_sels lw_privs ++ tables_1
theorem lw_privs_ok : ∀ q ∈ lw_privs, lw_okq q := by
  show ∀ q ∈ lw_privs_1 ++ (lw_privs_2 ++ (lw_privs_3)), lw_okq q
  exact List.forall_mem_append.mpr ⟨lw_r1, List.forall_mem_append.mpr ⟨lw_r2, lw_r3⟩⟩
end
section
/-! ===== BEGIN words of one list among another's, by their places ===== -/
theorem goodIn_r {big : List Cond} (ws : List Cond) (ps : List Nat) (hp : ws = ps.filterMap (fun i => big[i]?)) (h : ws.all goodWord = true) : GoodIn big ws := by
  intro w hw
  have h1 := List.all_eq_true.mp h w hw
  rw [hp] at hw
  obtain ⟨i, -, hi⟩ := List.mem_filterMap.mp hw
  have hm : w ∈ big := by first | exact List.mem_of_getElem? hi | exact List.getElem?_mem hi
  exact ⟨hm, good_of_word h1⟩
theorem goodIn_app {big a b : List Cond} (ha : GoodIn big a) (hb : GoodIn big b) : GoodIn big (a ++ b) := fun w h => (List.mem_append.mp h).elim (ha w) (hb w)
theorem goodIn_ca {big a b : List Cond} {c : Cond} (ha : GoodIn big (c :: a)) (hb : GoodIn big b) : GoodIn big (c :: (a ++ b)) := fun w h => (List.mem_cons.mp h).elim (fun e => ha w (List.mem_cons.mpr (Or.inl e))) (fun h => (List.mem_append.mp h).elim (fun h => ha w (List.mem_cons.mpr (Or.inr h))) (hb w))
theorem goodIn_sub {big ws : List Cond} (hm : ∀ w ∈ ws, w ∈ big) (h : ws.all goodWord = true) : GoodIn big ws := fun w hw => ⟨hm w hw, good_of_word (List.all_eq_true.mp h w hw)⟩
/-! ===== END ===== -/

/-! ===== BEGIN exceptions that leave a method, and their catching by the caller (launches without stack traces) ===== -/
section VXA
/-! The laws vx_back, vx_callV, vx_callS, vx_callSW, vx_throw0, vx_throwS follow proofs of the library, with one case more: JvmDerived/Free/Laws.lean (Back.of_free), Shelf42/LK1.lean (callV, callS), Shelf/KitTraced.lean (throwNew0V, throwNewS). -/
/-- where a method has thrown q: the class by its name, the cell, what was written, the world -/
def vx_T (XC : String → State → State → Prop) (st : State) (q : Addr) (t : State) (mc ms : Nat) (free : Addr → Prop) : Prop :=
  ∃ (E : String) (ce : Cell) (L : List Loc), XC E st t ∧ t.heap[q]? = some ce ∧ ce.vm = .none ∧ st.vm.findClass E = some ce.cls ∧ st.WarmedH t.vm ∧ st.sameButNew ({ t with vm := st.vm } : State) L mc ms ∧ ∀ z ∈ L, free z.base
def vx_Q (Qc : Array Value → State → Outcome → State → Prop) (XC : String → State → State → Prop) (mc ms : Nat) (free : Addr → Prop) : Array Value → State → Outcome → State → Prop := fun a st o t =>
  (Qc a st o t ∧ ∃ L, FrameEnd st o t L mc ms ∧ ∀ q ∈ L, free q.base) ∨ ∃ q, o = .threw q ∧ vx_T XC st q t mc ms free
/-- a callee that returns or throws -/
def vx_Met (l : Launch) (y : MethodName) (ws : List Cond) (rm : Room) (Pc : Array Value → State → Prop) (Qc : Array Value → State → Outcome → State → Prop) (XC : String → State → State → Prop) (mc ms : Nat) (free : Addr → Prop) : Prop :=
  MetFree l y (headSpec ws rm) Pc (fun _ _ _ _ _ => True) (vx_Q Qc XC mc ms free)
def vx_Post (XC : String → State → State → Prop) (mc ms : Nat) (free : Addr → Prop) : Pt → Array Value → Addr → Pt → Prop := fun A a q B =>
  ∃ (g : JFrame) (mk : MethodId) (t : State) (L : List Loc) (E : String) (ce : Cell), B.U.heap = t.heap ∧ B.U.vm = t.vm ∧ XC E (A.U.calling g mk a) t ∧ t.heap[q]? = some ce ∧ ce.vm = .none ∧ A.U.vm.findClass E = some ce.cls ∧ B.locs = A.locs ++ L ∧ (∀ z ∈ L, free z.base) ∧ B.cells = A.cells + mc ∧ B.slots = A.slots + ms
def vx_Back (l : Launch) (R : Room) (p : Program) (e : Env) (below : List Frame) (s : State) (sargs : Array Value) (y : MethodName) (len W9 : Nat)
    (Pre : Pt → Array Value → Prop) (Post : Pt → Array Value → Option Value → Pt → Prop) (PostX : Pt → Array Value → Addr → Pt → Prop) : Prop :=
  ∀ (m : MethodId) (meth : Method) (c : Code) (A : Pt) (g : JFrame) (ig : Instr) (mk : MethodId) (a : Array Value),
    Stand p l e R s m sargs below meth c A.U A.locs A.cells A.slots → g.method = m → g.locals.size = c.maxLocals → decode c.code g.pc = .ok (ig, len) →
    2 * g.monitorRoom + (g.stack.map fun v => v.category).sum ≤ W9 → A.U.methodNamed? y = some mk → Pre A a →
    (∃ (v : Option Value) (B : Pt), Stand p l e R s m sargs below meth c B.U B.locs B.cells B.slots ∧ Post A a v B ∧
      Steps p.tables e below (doInvoke e (A.U.setTop g) [] mk a).1 (B.U.setTop { g with pc := g.pc + len, stack := v.toList ++ g.stack })) ∨
    (∃ (q : Addr) (B : Pt), Stand p l e R s m sargs below meth c B.U B.locs B.cells B.slots ∧ PostX A a q B ∧
      Steps p.tables e below (doInvoke e (A.U.setTop g) [] mk a).1 ((B.U.setTop g).pushFrame (.throwing q)))
section Payer
variable {l : Launch} {R : Room} {p : Program} {e : Env} {below : List Frame} {s : State} {sargs : Array Value} {y : MethodName} {len W9 : Nat}
theorem vx_back {ws : List Cond} {rm : Room} {Pc : Array Value → State → Prop} {Qc : Array Value → State → Outcome → State → Prop} {XC : String → State → State → Prop} {mc ms : Nat} {free : Addr → Prop} {bytes : ByteArray} {maxL : Nat} {ret : Option FieldType}
    (hM : vx_Met l y ws rm Pc Qc XC mc ms free) (hblind : FrameBlind Pc) (hrc : rm.cells = mc) (hrs : rm.slots = ms)
    (hframes : rm.frames + 1 ≤ R.frames) (hlocals : W9 + (maxL + 11) + rm.locals ≤ R.locals)
    (hws : ∀ w ∈ ws, ∀ a' U, s.WarmedH U.vm → w.before a' U = true) (hcode : Cond.code y bytes maxL ret ∈ ws) (hinit : ∀ a' U, s.WarmedH U.vm → (Cond.initialized y.cls).before a' U = true) :
    vx_Back l R p e below s sargs y len W9 (PreOf R mc ms Pc) (PostOf Qc mc ms free) (vx_Post XC mc ms free) := by
  intro m meth c A g ig mk a X hg hsize hdg hW hn hp
  have h1 : (headSpec ws rm).pre.before a A.U = true := atoms_intro fun w hw => hws w hw _ _ X.warmed
  have h2 : (Cond.code y bytes maxL ret).before a A.U = true := hws _ hcode _ _ X.warmed
  have h3 : (Cond.initialized y.cls).before a A.U = true := hinit _ _ X.warmed
  have h4 : A.cells + (headSpec ws rm).room.cells ≤ R.cells := by rw [show (headSpec ws rm).room.cells = mc from hrc]; exact hp.1
  have h5 : A.slots + (headSpec ws rm).room.slots ≤ R.slots := by rw [show (headSpec ws rm).room.slots = ms from hrs]; exact hp.2.1
  have hPc : Pc a (A.U.calling g mk a) := hblind _ _ _ _ hp.2.2
  obtain ⟨U, Ls, c0, s0⟩ := A
  dsimp only [Pt.U, Pt.locs, Pt.cells, Pt.slots] at h1 h2 h3 h4 h5 X hn hPc ⊢
  obtain ⟨methY, cY, hmY, hcY, -, hlY, -, -, -, -⟩ := Cond.code_spec hn h2
  obtain ⟨kY, hkY, -⟩ := className_of_methodNamed hn
  have hinitY : kY.init = .initialized := Cond.initialized_spec (findClass_of_methodNamed hn) hkY h3
  have h : At U g.method c below := by rw [hg]; exact X.here
  have hlocals9 : W9 + (maxL + 11) + (headSpec ws rm).room.locals ≤ R.locals := hlocals
  have happ : (headSpec ws rm).appliesLoose y e.platform (U.calling g mk a) = true :=
    Spec.appliesLoose_calling (g := g) h hdg hn hkY hinitY
      (X.room_calling (g := g) (R' := (headSpec ws rm).room) hsize hmY hcY hframes (by rw [hlY]; omega) h4 h5) h1
  obtain ⟨mid, hmid⟩ := h.above
  have hfr : (U.setTop g).frames = (.java g :: mid) ++ below := by rw [State.frames_setTop' g h.top, hmid]; rfl
  obtain ⟨o, s₂, hsteps, -, hend, hq⟩ := Steps.callFree hM p X.admits X.cas X.clock (acts := []) hfr happ hPc trivial
  have hq' : vx_Q Qc XC mc ms free a (U.calling g mk a) o s₂ := hq
  rw [State.frames_setTop' g h.top] at hend
  obtain ⟨g₀, hg0⟩ := Option.isSome_iff_exists.mp h.top
  obtain ⟨r, hr⟩ := State.topJava?_eq_some.mp hg0
  have hr' : (({ U with heap := s₂.heap, slotsUsed := s₂.slotsUsed } : State).setVm s₂.vm).frames = .java g₀ :: r := hr
  rcases hq' with ⟨hqc, L, hfe, hL⟩ | ⟨q, rfl, E, ce, L, hx, hce, hcv, hcl, hW₂, hsm, hL⟩
  · obtain ⟨⟨v, rfl⟩, hW₂, e2, q2, q3, q4, q5, q6⟩ := id hfe
    have e3 : s₂ = ({ (U.calling g mk a).setFrames s₂.frames with heap := s₂.heap, slotsUsed := s₂.slotsUsed } : State).setVm s₂.vm := by
      have : s₂ = ({ s₂ with vm := (U.calling g mk a).vm } : State).setVm s₂.vm := rfl
      rw [e2] at this
      exact this
    obtain ⟨c₂, i₂, len₂, hc₂, hd₂, hf₂⟩ := hend
    have hW' : U.WarmedH s₂.vm := hW₂
    have hcc : c₂ = c := by
      have h1 : s₂.code? g.method = U.code? g.method := by
        rw [State.code?_eq, State.code?_eq, hW'.alike.method?]
      exact Option.some.inj (hc₂.symm.trans (h1.trans h.code))
    subst hcc
    have hlen : len₂ = len := by rw [hdg] at hd₂; cases hd₂; rfl
    subst hlen
    have hs₂ : s₂ = (({ U with heap := s₂.heap, slotsUsed := s₂.slotsUsed } : State).setVm s₂.vm).setTop { g with pc := g.pc + len₂, stack := v.toList ++ g.stack } := by
      refine e3.trans ?_
      rw [hf₂, State.calling_eq h.top, State.setFrames_setFrames, State.setTop_of_frames _ hr', hr]
      rfl
    have hsame : U.sameButNew ({ U with heap := s₂.heap, slotsUsed := s₂.slotsUsed } : State) L mc ms := by
      refine ⟨?_, q2, q3, q4, q5, q6⟩
      obtain ⟨t, ht, -⟩ := State.frames_cons hr
      show ({ U with heap := s₂.heap, slotsUsed := s₂.slotsUsed } : State) = { U.setFrames U.frames with heap := s₂.heap, slotsUsed := s₂.slotsUsed }
      rw [State.setFrames_self ht]
    subst hg
    refine Or.inl ⟨v, ⟨(({ U with heap := s₂.heap, slotsUsed := s₂.slotsUsed } : State).setVm s₂.vm), Ls ++ L, c0 + mc, s0 + ms⟩,
      ⟨X.admits, X.cas, X.clock, X.frames, X.room, X.hears, X.method, X.code, (X.here.setHeapUsed s₂.heap s₂.slotsUsed).setVm hW'.alike, X.tail, State.WarmedH.trans X.warmed hW', X.limits, X.bytes, X.same.trans (hsame.setVm s.vm)⟩,
      ⟨g, mk, s₂, L, rfl, rfl, hqc, rfl, hL, rfl, rfl⟩, ?_⟩
    show Steps p.tables e below _ ((({ U with heap := s₂.heap, slotsUsed := s₂.slotsUsed } : State).setVm s₂.vm).setTop { g with pc := g.pc + len₂, stack := v.toList ++ g.stack })
    rw [← hs₂]
    exact hsteps
  · obtain ⟨e2, q2, q3, q4, q5, q6⟩ := id hsm
    have e3 : s₂ = ({ (U.calling g mk a).setFrames s₂.frames with heap := s₂.heap, slotsUsed := s₂.slotsUsed } : State).setVm s₂.vm := by
      have : s₂ = ({ s₂ with vm := (U.calling g mk a).vm } : State).setVm s₂.vm := rfl
      rw [e2] at this
      exact this
    have hf₂ : s₂.frames = .throwing q :: .java g :: U.frames.tail := hend
    have hW' : U.WarmedH s₂.vm := hW₂
    have hs₂ : s₂ = ((({ U with heap := s₂.heap, slotsUsed := s₂.slotsUsed } : State).setVm s₂.vm).setTop g).pushFrame (.throwing q) := by
      refine e3.trans ?_
      rw [hf₂, State.calling_eq h.top, State.setFrames_setFrames, State.pushFrame, State.frames_setTop _ hr', State.setTop_of_frames _ hr', State.setFrames_setFrames, hr]
      rfl
    have hsame : U.sameButNew ({ U with heap := s₂.heap, slotsUsed := s₂.slotsUsed } : State) L mc ms := by
      refine ⟨?_, q2, q3, q4, q5, q6⟩
      obtain ⟨t, ht, -⟩ := State.frames_cons hr
      show ({ U with heap := s₂.heap, slotsUsed := s₂.slotsUsed } : State) = { U.setFrames U.frames with heap := s₂.heap, slotsUsed := s₂.slotsUsed }
      rw [State.setFrames_self ht]
    subst hg
    refine Or.inr ⟨q, ⟨(({ U with heap := s₂.heap, slotsUsed := s₂.slotsUsed } : State).setVm s₂.vm), Ls ++ L, c0 + mc, s0 + ms⟩,
      ⟨X.admits, X.cas, X.clock, X.frames, X.room, X.hears, X.method, X.code, (X.here.setHeapUsed s₂.heap s₂.slotsUsed).setVm hW'.alike, X.tail, State.WarmedH.trans X.warmed hW', X.limits, X.bytes, X.same.trans (hsame.setVm s.vm)⟩,
      ⟨g, mk, s₂, L, E, ce, rfl, rfl, hx, hce, hcv, hcl, rfl, hL, rfl, rfl⟩, ?_⟩
    show Steps p.tables e below _ (((({ U with heap := s₂.heap, slotsUsed := s₂.slotsUsed } : State).setVm s₂.vm).setTop g).pushFrame (.throwing q))
    rw [← hs₂]
    exact hsteps
end Payer
section Calls
variable {p : Program} {l : Launch} {e : Env} {R : Room} {s : State} {m : MethodId} {args : Array Value} {below : List Frame} {meth : Method} {c : Code} {T : State} {locs : List Loc} {cells slots : Nat}
theorem vx_callV (X : Stand p l e R s m args below meth c T locs cells slots) (hexec : p.tables.exec = Jvm.exec) {own C : String} {index : Nat} {y : MethodName} {bytes : ByteArray} {maxL : Nat} {ret : Option FieldType}
    (hown : s.vm.findClass own = some m.cls) (hlink : (Cond.methodLink own index y).before args s = true) (hinst : (Cond.instanceMethod y).before args s = true) (hsel : (Cond.selects C y y).before args s = true)
    (hcode : (Cond.code y bytes maxL ret).before args s = true) (hy : y.cls ≠ "java/lang/invoke/MethodHandle" ∧ y.cls ≠ "java/lang/invoke/VarHandle")
    {W9 : Nat} {Pre : Pt → Array Value → Prop} {Post : Pt → Array Value → Option Value → Pt → Prop} {PostX : Pt → Array Value → Addr → Pt → Prop} (hK : vx_Back l R p e below s args y 3 W9 Pre Post PostX)
    {b : Addr} {cellB : Cell} (hcell : T.heap[b]? = some cellB) (hobj : cellB.vm.isStatics = false) (hcls : s.vm.findClass C = some cellB.cls)
    {g : JFrame} (hg : g.method = m) (hsize : g.locals.size = c.maxLocals) {argsL rest : List Value} (hlen : ∀ sig, parseMethodDescriptor y.desc = some sig → argsL.length = sig.parameters.length)
    (hstack : g.stack = argsL.reverse ++ .ref b :: rest) (hW : 2 * g.monitorRoom + (rest.map fun v => v.category).sum ≤ W9) (hdg : decode c.code g.pc = .ok (.invokevirtual index, 3))
    (hpre : ∀ vm₁, s.WarmedH vm₁ → Pre ⟨T.setVm vm₁, locs, cells, slots⟩ (Value.ref b :: argsL).toArray) :
    (∃ (v : Option Value) (vm₁ : Vm) (B : Pt), s.WarmedH vm₁ ∧ Stand p l e R s m args below meth c B.U B.locs B.cells B.slots ∧ Post ⟨T.setVm vm₁, locs, cells, slots⟩ (Value.ref b :: argsL).toArray v B ∧
      ∀ target, Steps p.tables e below (B.U.setTop { g with pc := g.pc + 3, stack := v.toList ++ rest }) target → Steps p.tables e below (T.setTop g) target) ∨
    (∃ (q : Addr) (vm₁ : Vm) (B : Pt), s.WarmedH vm₁ ∧ Stand p l e R s m args below meth c B.U B.locs B.cells B.slots ∧ PostX ⟨T.setVm vm₁, locs, cells, slots⟩ (Value.ref b :: argsL).toArray q B ∧
      Steps p.tables e below (T.setTop g) ((B.U.setTop { g with stack := rest }).pushFrame (.throwing q))) := by
  obtain ⟨mk, methM, hnamed, hmethM, hstM, habM⟩ := Cond.instanceMethod_spec hinst
  obtain ⟨methM', cM, hmethM', -, -, -, -, -, -, hsigM⟩ := Cond.code_spec hnamed hcode
  cases hmethM.symm.trans hmethM'
  obtain ⟨c2, r2, m2, q1, q2, q3, q4, kP, hkP, hkPi⟩ := Cond.selects_spec hsel
  cases hcls.symm.trans q1
  cases (State.methodFound?_of_named hnamed hy).symm.trans q2
  cases hnamed.symm.trans q3
  have hselP : selectMethod e.platform s.vm cellB.cls mk = .method mk := by rw [Launch.admits_selectMethod X.admits]; exact q4
  obtain ⟨vm₁, X₁, hstep₁⟩ := X.invokevirtual hexec hown hlink hnamed hmethM hstM hkP hkPi hy (a := b) (cell := cellB) hcell
    (fun z h => by rw [h] at hobj; cases hobj) hselP hmethM habM hkP hkPi (g := g) hg (argsL := argsL) (rest := rest) (hlen _ hsigM) hstack hdg
  rcases hK m meth c ⟨T.setVm vm₁, locs, cells, slots⟩ { g with stack := rest } (.invokevirtual index) mk (Value.ref b :: argsL).toArray X₁ hg hsize hdg hW (X₁.named hnamed) (hpre vm₁ X₁.warmed) with ⟨v, B, X', hpost, hsteps⟩ | ⟨q, B, X', hpost, hsteps⟩
  · exact Or.inl ⟨v, vm₁, B, X₁.warmed, X', hpost, fun target h => hstep₁ _ fun acts => by rw [doInvoke_state]; exact hsteps.trans h⟩
  · exact Or.inr ⟨q, vm₁, B, X₁.warmed, X', hpost, hstep₁ _ fun acts => by rw [doInvoke_state]; exact hsteps⟩
theorem vx_callS (X : Stand p l e R s m args below meth c T locs cells slots) (hexec : p.tables.exec = Jvm.exec) {own : String} {index : Nat} {y : MethodName} {bytes : ByteArray} {maxL : Nat} {ret : Option FieldType}
    (hown : s.vm.findClass own = some m.cls) (hlink : (Cond.methodLink own index y).before args s = true) (hstat : (Cond.static y).before args s = true) (hinit : (Cond.initialized y.cls).before args s = true)
    (hcode : (Cond.code y bytes maxL ret).before args s = true) (hy : y.cls ≠ "java/lang/invoke/MethodHandle" ∧ y.cls ≠ "java/lang/invoke/VarHandle")
    {W9 : Nat} {Pre : Pt → Array Value → Prop} {Post : Pt → Array Value → Option Value → Pt → Prop} {PostX : Pt → Array Value → Addr → Pt → Prop} (hK : vx_Back l R p e below s args y 3 W9 Pre Post PostX)
    {g : JFrame} (hg : g.method = m) (hsize : g.locals.size = c.maxLocals) {argsL rest : List Value} (hlen : ∀ sig, parseMethodDescriptor y.desc = some sig → argsL.length = sig.parameters.length)
    (hstack : g.stack = argsL.reverse ++ rest) (hW : 2 * g.monitorRoom + (rest.map fun v => v.category).sum ≤ W9) (hdg : decode c.code g.pc = .ok (.invokestatic index, 3))
    (hpre : ∀ vm₁, s.WarmedH vm₁ → Pre ⟨T.setVm vm₁, locs, cells, slots⟩ argsL.toArray) :
    (∃ (v : Option Value) (vm₁ : Vm) (B : Pt), s.WarmedH vm₁ ∧ Stand p l e R s m args below meth c B.U B.locs B.cells B.slots ∧ Post ⟨T.setVm vm₁, locs, cells, slots⟩ argsL.toArray v B ∧
      ∀ target, Steps p.tables e below (B.U.setTop { g with pc := g.pc + 3, stack := v.toList ++ rest }) target → Steps p.tables e below (T.setTop g) target) ∨
    (∃ (q : Addr) (vm₁ : Vm) (B : Pt), s.WarmedH vm₁ ∧ Stand p l e R s m args below meth c B.U B.locs B.cells B.slots ∧ PostX ⟨T.setVm vm₁, locs, cells, slots⟩ argsL.toArray q B ∧
      Steps p.tables e below (T.setTop g) ((B.U.setTop { g with stack := rest }).pushFrame (.throwing q))) := by
  obtain ⟨mk, hnamed⟩ := Cond.code_named hcode
  obtain ⟨methM, cM, hmethM, -, -, -, -, -, -, hsigM⟩ := Cond.code_spec hnamed hcode
  have hstatic : methM.isStatic = true := Cond.static_spec hnamed hmethM hstat
  obtain ⟨kP, hkP, -⟩ := className_of_methodNamed hnamed
  have hinitP : kP.init = .initialized := Cond.initialized_spec (findClass_of_methodNamed hnamed) hkP hinit
  obtain ⟨vm₁, X₁, hstep₁⟩ := X.invokestatic hexec hown hlink hnamed hmethM hstatic hkP hinitP hy (g := g) hg (argsL := argsL) (rest := rest) (hlen _ hsigM) hstack hdg
  rcases hK m meth c ⟨T.setVm vm₁, locs, cells, slots⟩ { g with stack := rest } (.invokestatic index) mk argsL.toArray X₁ hg hsize hdg hW (X₁.named hnamed) (hpre vm₁ X₁.warmed) with ⟨v, B, X', hpost, hsteps⟩ | ⟨q, B, X', hpost, hsteps⟩
  · exact Or.inl ⟨v, vm₁, B, X₁.warmed, X', hpost, fun target h => hstep₁ _ fun acts => by rw [doInvoke_state]; exact hsteps.trans h⟩
  · exact Or.inr ⟨q, vm₁, B, X₁.warmed, X', hpost, hstep₁ _ fun acts => by rw [doInvoke_state]; exact hsteps⟩
end Calls
theorem vx_cls {s : State} {T : State} {vm₁ : Vm} {E : String} {k : ClassId} (hW : s.WarmedH vm₁) (h : (T.setVm vm₁).vm.findClass E = some k) : s.vm.findClass E = some k := by
  have h1 : vm₁.findClass E = some k := h
  rw [hW.alike.findClass] at h1
  exact h1
/-- the method's frame g, with q thrown over it -/
def vx_W (p : Program) (l : Launch) (e : Env) (R : Room) (s : State) (m : MethodId) (args : Array Value) (below : List Frame) (meth : Method) (c : Code) (H : Heap) (locs : List Loc) (cells slots : Nat) (Q : State → Prop) (g : JFrame) (q : Addr) : Prop :=
  ∀ T : State, T.heap = H → Stand p l e R s m args below meth c T locs cells slots → ∃ t, Steps p.tables e below ((T.setTop g).pushFrame (.throwing q)) t ∧ Q t
def vx_Run (p : Program) (l : Launch) (e : Env) (R : Room) (s : State) (m : MethodId) (args : Array Value) (below : List Frame) (meth : Method) (c : Code) (H : Heap) (locs : List Loc) (cells slots mc ms : Nat) (g : JFrame) (rest : List Value) (Qa : State → Outcome → State → Prop) (XC : String → State → State → Prop) (free : Addr → Prop) : Prop :=
  ∀ T : State, T.heap = H → Stand p l e R s m args below meth c T locs cells slots →
    (∃ (v : Option Value) (st₀ t T' : State) (L : List Loc), st₀.heap = H ∧ Stand p l e R s m args below meth c T' (locs ++ L) (cells + mc) (slots + ms) ∧ (∀ q ∈ L, free q.base) ∧ T'.heap = t.heap ∧ T'.vm = t.vm ∧ Qa st₀ (.returned v) t ∧
      Goes p e below T g T' { g with pc := g.pc + 3, stack := v.toList ++ rest }) ∨
    (∃ (q : Addr) (st₀ t T' : State) (L : List Loc) (E : String) (ce : Cell), st₀.heap = H ∧ Stand p l e R s m args below meth c T' (locs ++ L) (cells + mc) (slots + ms) ∧ (∀ z ∈ L, free z.base) ∧ T'.heap = t.heap ∧ T'.vm = t.vm ∧ XC E st₀ t ∧ t.heap[q]? = some ce ∧ ce.vm = .none ∧ s.vm.findClass E = some ce.cls ∧
      Steps p.tables e below (T.setTop g) ((T'.setTop { g with stack := rest }).pushFrame (.throwing q)))
def vx_X {S : Type} (px : S → Prop) (B : String → S → State → Prop) (A : Nat → Prop) : String → State → State → Prop := fun E st t => ∃ u : S, px u ∧ B E u t ∧ va_F A st t
section Runs
variable {p : Program} {l : Launch} {e : Env} {R : Room} {s : State} {m : MethodId} {args : Array Value} {below : List Frame} {meth : Method} {c : Code} {H : Heap} {locs : List Loc} {cells slots : Nat}
variable {y : MethodName} {bytes cc : ByteArray} {maxL nL mc ms n index : Nat} {ret : Option FieldType} {ws : List Cond} {rm : Room} {Pc : Array Value → State → Prop} {Qc : Array Value → State → Outcome → State → Prop} {XC : String → State → State → Prop} {free : Addr → Prop} {Ts : List Cond} {own C : String} {b : Addr} {As rest : List Value} {g : JFrame}
theorem vx_callBack (cb : CallB R s args own index y bytes maxL ret ws rm mc ms n) (hM : vx_Met l y ws rm Pc Qc XC mc ms free) (hbl : FrameBlind Pc) : vx_Back l R p e below s args y 3 8 (PreOf R mc ms Pc) (PostOf Qc mc ms free) (vx_Post XC mc ms free) := by
  obtain ⟨hrc, hrs, hfr, hlo, hws, hcw, -, hini, -⟩ := cb
  exact vx_back (bytes := bytes) (maxL := maxL) (ret := ret) hM hbl hrc hrs hfr hlo hws hcw (fun a' U hW => word_at hW (Or.inl (by first | rfl | simp [Cond.onTables, Cond.keeps, Cond.steady])) hini)
theorem vx_runV (S : CallFix p m c cc nL s args Ts own) (hM : vx_Met l y ws rm Pc Qc XC mc ms free) (cw : CallW R s args own C index y bytes maxL ret ws rm mc ms n) (hp : PreV s H C b Pc As)
    (hg : g.method = m) (hn : As.length = n) (hsize : g.locals.size = nL) (hstack : g.stack = As.reverse ++ .ref b :: rest) (hW : 2 * g.monitorRoom + (rest.map fun v => v.category).sum ≤ 8) (hdg : decode cc g.pc = .ok (.invokevirtual index, 3)) (hf : cells + mc ≤ R.cells ∧ slots + ms ≤ R.slots) :
    vx_Run p l e R s m args below meth c H locs cells slots mc ms g rest (Qc (Value.ref b :: As).toArray) XC free := by
  have hK : vx_Back l R p e below s args y 3 8 (PreOf R mc ms Pc) (PostOf Qc mc ms free) (vx_Post XC mc ms free) := vx_callBack cw.1 hM hp.1
  obtain ⟨⟨-, -, -, -, -, -, hcode, -, hy, hlen, hl⟩, hin, hse⟩ := cw
  obtain ⟨hx, hb, hml, ho, -⟩ := S
  obtain ⟨-, ⟨cellB, hcB, hoB, hclB⟩, hPc⟩ := hp
  intro T hT X
  rcases vx_callV X hx (C := C) (bytes := bytes) (maxL := maxL) (ret := ret) ho hl hin hse hcode hy hK (by rw [hT]; exact hcB) hoB hclB hg (hsize.trans hml.symm) (argsL := As) (rest := rest) (fun sig h => hn.trans (hlen sig h)) hstack hW (by rw [hb]; exact hdg)
    (fun vm₁ hW₁ => ⟨hf.1, hf.2, hPc (T.setVm vm₁) hT hW₁⟩) with ⟨v, vm₁, ⟨U', l2, c2, s2⟩, hW₁, X', ⟨g', mk, t, L, e1, e2, hq, h1, hL, h2, h3⟩, st⟩ | ⟨q, vm₁, ⟨U', l2, c2, s2⟩, hW₁, X', ⟨g', mk, t, L, E, ce, e1, e2, hq, hce, hcv, hcl, h1, hL, h2, h3⟩, st⟩
  · dsimp only [Pt.U, Pt.locs, Pt.cells, Pt.slots] at X' e1 e2 h1 h2 h3 st
    subst h1; subst h2; subst h3
    exact Or.inl ⟨v, (T.setVm vm₁).calling g' mk (Value.ref b :: As).toArray, t, U', L, hT, X', hL, e1, e2, hq, st⟩
  · dsimp only [Pt.U, Pt.locs, Pt.cells, Pt.slots] at X' e1 e2 h1 h2 h3 st hcl
    subst h1; subst h2; subst h3
    exact Or.inr ⟨q, (T.setVm vm₁).calling g' mk (Value.ref b :: As).toArray, t, U', L, E, ce, hT, X', hL, e1, e2, hq, hce, hcv, vx_cls hW₁ hcl, st⟩
theorem vx_runS (S : CallFix p m c cc nL s args Ts own) (hM : vx_Met l y ws rm Pc Qc XC mc ms free) (cw : CallB R s args own index y bytes maxL ret ws rm mc ms n ∧ (Cond.static y).before args s = true) (hp : PreS s H Pc As)
    (hg : g.method = m) (hn : As.length = n) (hsize : g.locals.size = nL) (hstack : g.stack = As.reverse ++ rest) (hW : 2 * g.monitorRoom + (rest.map fun v => v.category).sum ≤ 8) (hdg : decode cc g.pc = .ok (.invokestatic index, 3)) (hf : cells + mc ≤ R.cells ∧ slots + ms ≤ R.slots) :
    vx_Run p l e R s m args below meth c H locs cells slots mc ms g rest (Qc As.toArray) XC free := by
  have hK : vx_Back l R p e below s args y 3 8 (PreOf R mc ms Pc) (PostOf Qc mc ms free) (vx_Post XC mc ms free) := vx_callBack cw.1 hM hp.1
  obtain ⟨⟨-, -, -, -, -, -, hcode, hini, hy, hlen, hl⟩, hstt⟩ := cw
  obtain ⟨hx, hb, hml, ho, -⟩ := S
  intro T hT X
  rcases vx_callS X hx (bytes := bytes) (maxL := maxL) (ret := ret) ho hl hstt hini hcode hy hK hg (hsize.trans hml.symm) (argsL := As) (rest := rest) (fun sig h => hn.trans (hlen sig h)) hstack hW (by rw [hb]; exact hdg)
    (fun vm₁ hW₁ => ⟨hf.1, hf.2, hp.2 (T.setVm vm₁) hT hW₁⟩) with ⟨v, vm₁, ⟨U', l2, c2, s2⟩, hW₁, X', ⟨g', mk, t, L, e1, e2, hq, h1, hL, h2, h3⟩, st⟩ | ⟨q, vm₁, ⟨U', l2, c2, s2⟩, hW₁, X', ⟨g', mk, t, L, E, ce, e1, e2, hq, hce, hcv, hcl, h1, hL, h2, h3⟩, st⟩
  · dsimp only [Pt.U, Pt.locs, Pt.cells, Pt.slots] at X' e1 e2 h1 h2 h3 st
    subst h1; subst h2; subst h3
    exact Or.inl ⟨v, (T.setVm vm₁).calling g' mk As.toArray, t, U', L, hT, X', hL, e1, e2, hq, st⟩
  · dsimp only [Pt.U, Pt.locs, Pt.cells, Pt.slots] at X' e1 e2 h1 h2 h3 st hcl
    subst h1; subst h2; subst h3
    exact Or.inr ⟨q, (T.setVm vm₁).calling g' mk As.toArray, t, U', L, E, ce, hT, X', hL, e1, e2, hq, hce, hcv, vx_cls hW₁ hcl, st⟩
end Runs
section Rows
variable {p : Program} {l : Launch} {e : Env} {R : Room} {s : State} {m : MethodId} {args : Array Value} {below : List Frame} {meth : Method} {c : Code} {H : Heap} {locs : List Loc} {cells slots : Nat} {Q : State → Prop}
variable {mc ms : Nat} {free : Addr → Prop} {A0 A1 : Nat → Prop} {H0 : Heap} {a : Array Value} {pc : Nat} {ls : Array Slot} {st0 rest : List Value}
theorem vx_keep {st₀ t T' : State} {L : List Loc} (h0 : st₀.heap = H) (e1 : T'.heap = t.heap) (hS : va_S A0 H0 H locs) (hA : ∀ q, q < H.size → A1 q → A0 q) (hf : ∀ q, free q → A0 q) (hL : ∀ q ∈ L, free q.base) (hF : va_F A1 st₀ t) :
    H.size ≤ T'.heap.size ∧ (∀ q : Nat, q < H.size → ¬ A1 q → T'.heap[q]? = H[q]?) ∧ va_S A0 H0 T'.heap (locs ++ L) := by
  obtain ⟨hz, hk⟩ := hF
  rw [h0] at hz hk
  exact ⟨by rw [e1]; exact hz, fun q h1 h2 => by rw [e1]; exact hk q h1 h2,
    ⟨Nat.le_trans hS.1 (by rw [e1]; exact hz), fun q h1 h2 => by rw [e1, hk q (Nat.lt_of_lt_of_le h1 hS.1) (fun z => h2 (hA q (Nat.lt_of_lt_of_le h1 hS.1) z))]; exact hS.2.1 q h1 h2, fun q hq => by
      rcases List.mem_append.mp hq with h | h
      · exact hS.2.2 q h
      · exact hf _ (hL q h)⟩⟩
theorem vx_calli {S SX : Type} {post : Int32 → S → Prop} {px : SX → Prop} {B : S → State → Prop} {BX : String → SX → State → Prop} {AX : Nat → Prop} (hr : vx_Run p l e R s m args below meth c H locs cells slots mc ms (F0 m pc ls st0) rest (va_Qi post B A1 a) (vx_X px BX AX) free) (hS : va_S A0 H0 H locs) (hA : ∀ q, q < H.size → A1 q → A0 q) (hf : ∀ q, free q → A0 q) (hAX : ∀ q, q < H.size → AX q → A0 q)
    (kx : ∀ (E : String) (ce : Cell) (q9 : Addr) (u : SX) (t : State) (H1 : Heap) (locs1 : List Loc), t.heap = H1 → s.vm.Alike t.vm → px u → BX E u t → H.size ≤ H1.size → (∀ q : Nat, q < H.size → ¬ AX q → H1[q]? = H[q]?) → va_S A0 H0 H1 locs1 → H1[q9]? = some ce → ce.vm = .none → s.vm.findClass E = some ce.cls → vx_W p l e R s m args below meth c H1 locs1 (cells + mc) (slots + ms) Q (F0 m pc ls rest) q9)
    (kk : ∀ (r : Int32) (u : S) (t : State) (H1 : Heap) (locs1 : List Loc), t.heap = H1 → s.vm.Alike t.vm → post r u → B u t → H.size ≤ H1.size → (∀ q : Nat, q < H.size → ¬ A1 q → H1[q]? = H[q]?) → va_S A0 H0 H1 locs1 → W p l e R s m args below meth c H1 locs1 (cells + mc) (slots + ms) Q (F0 m (pc + 3) ls (.int r :: rest))) : W p l e R s m args below meth c H locs cells slots Q (F0 m pc ls st0) := by
  intro T hT X
  rcases hr T hT X with ⟨v, st₀, t, T', L, h0, X', hL, e1, e2, ⟨⟨r, u, hv, hp, hb⟩, hF⟩, st⟩ | ⟨q, st₀, t, T', L, E, ce, h0, X', hL, e1, e2, ⟨u, hp, hb, hF⟩, hce, hcv, hcl, st⟩
  · cases hv
    obtain ⟨k1, k2, k3⟩ := vx_keep h0 e1 hS hA hf hL hF
    obtain ⟨t2, a1, b1⟩ := kk r u t T'.heap (locs ++ L) e1.symm (by rw [← e2]; exact X'.warmed.alike) hp hb k1 k2 k3 T' rfl X'
    exact ⟨t2, st t2 a1, b1⟩
  · obtain ⟨k1, k2, k3⟩ := vx_keep h0 e1 hS hAX hf hL hF
    obtain ⟨t2, a1, b1⟩ := kx E ce q u t T'.heap (locs ++ L) e1.symm (by rw [← e2]; exact X'.warmed.alike) hp hb k1 k2 k3 (by rw [e1]; exact hce) hcv hcl T' rfl X'
    exact ⟨t2, st.trans a1, b1⟩
theorem vx_calll {S SX : Type} {post : Int64 → S → Prop} {px : SX → Prop} {B : S → State → Prop} {BX : String → SX → State → Prop} {AX : Nat → Prop} (hr : vx_Run p l e R s m args below meth c H locs cells slots mc ms (F0 m pc ls st0) rest (va_Ql post B A1 a) (vx_X px BX AX) free) (hS : va_S A0 H0 H locs) (hA : ∀ q, q < H.size → A1 q → A0 q) (hf : ∀ q, free q → A0 q) (hAX : ∀ q, q < H.size → AX q → A0 q)
    (kx : ∀ (E : String) (ce : Cell) (q9 : Addr) (u : SX) (t : State) (H1 : Heap) (locs1 : List Loc), t.heap = H1 → s.vm.Alike t.vm → px u → BX E u t → H.size ≤ H1.size → (∀ q : Nat, q < H.size → ¬ AX q → H1[q]? = H[q]?) → va_S A0 H0 H1 locs1 → H1[q9]? = some ce → ce.vm = .none → s.vm.findClass E = some ce.cls → vx_W p l e R s m args below meth c H1 locs1 (cells + mc) (slots + ms) Q (F0 m pc ls rest) q9)
    (kk : ∀ (r : Int64) (u : S) (t : State) (H1 : Heap) (locs1 : List Loc), t.heap = H1 → s.vm.Alike t.vm → post r u → B u t → H.size ≤ H1.size → (∀ q : Nat, q < H.size → ¬ A1 q → H1[q]? = H[q]?) → va_S A0 H0 H1 locs1 → W p l e R s m args below meth c H1 locs1 (cells + mc) (slots + ms) Q (F0 m (pc + 3) ls (.long r :: rest))) : W p l e R s m args below meth c H locs cells slots Q (F0 m pc ls st0) := by
  intro T hT X
  rcases hr T hT X with ⟨v, st₀, t, T', L, h0, X', hL, e1, e2, ⟨⟨r, u, hv, hp, hb⟩, hF⟩, st⟩ | ⟨q, st₀, t, T', L, E, ce, h0, X', hL, e1, e2, ⟨u, hp, hb, hF⟩, hce, hcv, hcl, st⟩
  · cases hv
    obtain ⟨k1, k2, k3⟩ := vx_keep h0 e1 hS hA hf hL hF
    obtain ⟨t2, a1, b1⟩ := kk r u t T'.heap (locs ++ L) e1.symm (by rw [← e2]; exact X'.warmed.alike) hp hb k1 k2 k3 T' rfl X'
    exact ⟨t2, st t2 a1, b1⟩
  · obtain ⟨k1, k2, k3⟩ := vx_keep h0 e1 hS hAX hf hL hF
    obtain ⟨t2, a1, b1⟩ := kx E ce q u t T'.heap (locs ++ L) e1.symm (by rw [← e2]; exact X'.warmed.alike) hp hb k1 k2 k3 (by rw [e1]; exact hce) hcv hcl T' rfl X'
    exact ⟨t2, st.trans a1, b1⟩
theorem vx_callf {S SX : Type} {post : UInt32 → S → Prop} {px : SX → Prop} {B : S → State → Prop} {BX : String → SX → State → Prop} {AX : Nat → Prop} (hr : vx_Run p l e R s m args below meth c H locs cells slots mc ms (F0 m pc ls st0) rest (va_Qf post B A1 a) (vx_X px BX AX) free) (hS : va_S A0 H0 H locs) (hA : ∀ q, q < H.size → A1 q → A0 q) (hf : ∀ q, free q → A0 q) (hAX : ∀ q, q < H.size → AX q → A0 q)
    (kx : ∀ (E : String) (ce : Cell) (q9 : Addr) (u : SX) (t : State) (H1 : Heap) (locs1 : List Loc), t.heap = H1 → s.vm.Alike t.vm → px u → BX E u t → H.size ≤ H1.size → (∀ q : Nat, q < H.size → ¬ AX q → H1[q]? = H[q]?) → va_S A0 H0 H1 locs1 → H1[q9]? = some ce → ce.vm = .none → s.vm.findClass E = some ce.cls → vx_W p l e R s m args below meth c H1 locs1 (cells + mc) (slots + ms) Q (F0 m pc ls rest) q9)
    (kk : ∀ (r : UInt32) (u : S) (t : State) (H1 : Heap) (locs1 : List Loc), t.heap = H1 → s.vm.Alike t.vm → post r u → B u t → H.size ≤ H1.size → (∀ q : Nat, q < H.size → ¬ A1 q → H1[q]? = H[q]?) → va_S A0 H0 H1 locs1 → W p l e R s m args below meth c H1 locs1 (cells + mc) (slots + ms) Q (F0 m (pc + 3) ls (.float r :: rest))) : W p l e R s m args below meth c H locs cells slots Q (F0 m pc ls st0) := by
  intro T hT X
  rcases hr T hT X with ⟨v, st₀, t, T', L, h0, X', hL, e1, e2, ⟨⟨r, u, hv, hp, hb⟩, hF⟩, st⟩ | ⟨q, st₀, t, T', L, E, ce, h0, X', hL, e1, e2, ⟨u, hp, hb, hF⟩, hce, hcv, hcl, st⟩
  · cases hv
    obtain ⟨k1, k2, k3⟩ := vx_keep h0 e1 hS hA hf hL hF
    obtain ⟨t2, a1, b1⟩ := kk r u t T'.heap (locs ++ L) e1.symm (by rw [← e2]; exact X'.warmed.alike) hp hb k1 k2 k3 T' rfl X'
    exact ⟨t2, st t2 a1, b1⟩
  · obtain ⟨k1, k2, k3⟩ := vx_keep h0 e1 hS hAX hf hL hF
    obtain ⟨t2, a1, b1⟩ := kx E ce q u t T'.heap (locs ++ L) e1.symm (by rw [← e2]; exact X'.warmed.alike) hp hb k1 k2 k3 (by rw [e1]; exact hce) hcv hcl T' rfl X'
    exact ⟨t2, st.trans a1, b1⟩
theorem vx_calld {S SX : Type} {post : UInt64 → S → Prop} {px : SX → Prop} {B : S → State → Prop} {BX : String → SX → State → Prop} {AX : Nat → Prop} (hr : vx_Run p l e R s m args below meth c H locs cells slots mc ms (F0 m pc ls st0) rest (va_Qd post B A1 a) (vx_X px BX AX) free) (hS : va_S A0 H0 H locs) (hA : ∀ q, q < H.size → A1 q → A0 q) (hf : ∀ q, free q → A0 q) (hAX : ∀ q, q < H.size → AX q → A0 q)
    (kx : ∀ (E : String) (ce : Cell) (q9 : Addr) (u : SX) (t : State) (H1 : Heap) (locs1 : List Loc), t.heap = H1 → s.vm.Alike t.vm → px u → BX E u t → H.size ≤ H1.size → (∀ q : Nat, q < H.size → ¬ AX q → H1[q]? = H[q]?) → va_S A0 H0 H1 locs1 → H1[q9]? = some ce → ce.vm = .none → s.vm.findClass E = some ce.cls → vx_W p l e R s m args below meth c H1 locs1 (cells + mc) (slots + ms) Q (F0 m pc ls rest) q9)
    (kk : ∀ (r : UInt64) (u : S) (t : State) (H1 : Heap) (locs1 : List Loc), t.heap = H1 → s.vm.Alike t.vm → post r u → B u t → H.size ≤ H1.size → (∀ q : Nat, q < H.size → ¬ A1 q → H1[q]? = H[q]?) → va_S A0 H0 H1 locs1 → W p l e R s m args below meth c H1 locs1 (cells + mc) (slots + ms) Q (F0 m (pc + 3) ls (.double r :: rest))) : W p l e R s m args below meth c H locs cells slots Q (F0 m pc ls st0) := by
  intro T hT X
  rcases hr T hT X with ⟨v, st₀, t, T', L, h0, X', hL, e1, e2, ⟨⟨r, u, hv, hp, hb⟩, hF⟩, st⟩ | ⟨q, st₀, t, T', L, E, ce, h0, X', hL, e1, e2, ⟨u, hp, hb, hF⟩, hce, hcv, hcl, st⟩
  · cases hv
    obtain ⟨k1, k2, k3⟩ := vx_keep h0 e1 hS hA hf hL hF
    obtain ⟨t2, a1, b1⟩ := kk r u t T'.heap (locs ++ L) e1.symm (by rw [← e2]; exact X'.warmed.alike) hp hb k1 k2 k3 T' rfl X'
    exact ⟨t2, st t2 a1, b1⟩
  · obtain ⟨k1, k2, k3⟩ := vx_keep h0 e1 hS hAX hf hL hF
    obtain ⟨t2, a1, b1⟩ := kx E ce q u t T'.heap (locs ++ L) e1.symm (by rw [← e2]; exact X'.warmed.alike) hp hb k1 k2 k3 (by rw [e1]; exact hce) hcv hcl T' rfl X'
    exact ⟨t2, st.trans a1, b1⟩
theorem vx_callv {S SX : Type} {post : S → Prop} {px : SX → Prop} {B : S → State → Prop} {BX : String → SX → State → Prop} {AX : Nat → Prop} (hr : vx_Run p l e R s m args below meth c H locs cells slots mc ms (F0 m pc ls st0) rest (va_Qv post B A1 a) (vx_X px BX AX) free) (hS : va_S A0 H0 H locs) (hA : ∀ q, q < H.size → A1 q → A0 q) (hf : ∀ q, free q → A0 q) (hAX : ∀ q, q < H.size → AX q → A0 q)
    (kx : ∀ (E : String) (ce : Cell) (q9 : Addr) (u : SX) (t : State) (H1 : Heap) (locs1 : List Loc), t.heap = H1 → s.vm.Alike t.vm → px u → BX E u t → H.size ≤ H1.size → (∀ q : Nat, q < H.size → ¬ AX q → H1[q]? = H[q]?) → va_S A0 H0 H1 locs1 → H1[q9]? = some ce → ce.vm = .none → s.vm.findClass E = some ce.cls → vx_W p l e R s m args below meth c H1 locs1 (cells + mc) (slots + ms) Q (F0 m pc ls rest) q9)
    (kk : ∀ (u : S) (t : State) (H1 : Heap) (locs1 : List Loc), t.heap = H1 → s.vm.Alike t.vm → post u → B u t → H.size ≤ H1.size → (∀ q : Nat, q < H.size → ¬ A1 q → H1[q]? = H[q]?) → va_S A0 H0 H1 locs1 → W p l e R s m args below meth c H1 locs1 (cells + mc) (slots + ms) Q (F0 m (pc + 3) ls (rest))) : W p l e R s m args below meth c H locs cells slots Q (F0 m pc ls st0) := by
  intro T hT X
  rcases hr T hT X with ⟨v, st₀, t, T', L, h0, X', hL, e1, e2, ⟨⟨u, hv, hp, hb⟩, hF⟩, st⟩ | ⟨q, st₀, t, T', L, E, ce, h0, X', hL, e1, e2, ⟨u, hp, hb, hF⟩, hce, hcv, hcl, st⟩
  · cases hv
    obtain ⟨k1, k2, k3⟩ := vx_keep h0 e1 hS hA hf hL hF
    obtain ⟨t2, a1, b1⟩ := kk u t T'.heap (locs ++ L) e1.symm (by rw [← e2]; exact X'.warmed.alike) hp hb k1 k2 k3 T' rfl X'
    exact ⟨t2, st t2 a1, b1⟩
  · obtain ⟨k1, k2, k3⟩ := vx_keep h0 e1 hS hAX hf hL hF
    obtain ⟨t2, a1, b1⟩ := kx E ce q u t T'.heap (locs ++ L) e1.symm (by rw [← e2]; exact X'.warmed.alike) hp hb k1 k2 k3 (by rw [e1]; exact hce) hcv hcl T' rfl X'
    exact ⟨t2, st.trans a1, b1⟩
/-- caught by the row x of this method's table; the rows ahead don't take it -/
theorem vx_catch {own name : String} {E : String} {ce : Cell} {q : Addr} (hown : s.vm.findClass own = some m.cls) (pre : List ExceptionTableEntry) (x : ExceptionTableEntry) (suf : List ExceptionTableEntry) (hsplit : c.exceptionTable.toList = pre ++ x :: suf)
    (hpass : ∀ z ∈ pre, covers z pc = false ∨ (z.catchType ≠ 0 ∧ ∃ nm : String, (Cond.classLink own z.catchType nm).before args s = true ∧ va_Nc E nm s)) (hx : covers x pc = true) (h0 : x.catchType ≠ 0)
    (hlink : (Cond.classLink own x.catchType name).before args s = true) (hcast : (Cond.castable E name).before args s = true) (hcell : H[q]? = some ce) (hv : ce.vm = .none) (hcl : s.vm.findClass E = some ce.cls)
    (kk : W p l e R s m args below meth c H locs cells slots Q (F0 m x.handlerPc ls [.ref q])) : vx_W p l e R s m args below meth c H locs cells slots Q (F0 m pc ls rest) q := by
  intro T hT X
  have hpl : e.platform.magicAccessors = ({} : Platform).magicAccessors := by rw [X.admits.platform]
  obtain ⟨c3, c4, hc3, hc4, hasg⟩ := Cond.castable_spec hcast
  cases Option.some.inj (hc3.symm.trans hcl)
  obtain ⟨c5, hc5, hcl5⟩ := Cond.classLink_spec hown hlink e.platform hpl
  cases Option.some.inj (hc4.symm.trans hc5)
  obtain ⟨vm', X', st⟩ := X.thenCaughtThrough q (g := F0 m pc ls rest) rfl (Steps.refl _) (by rw [hT]; exact hcell) (by rw [hv]; rfl) (by obtain ⟨k9, h9, -⟩ := Vm.findClass_spec hcl; exact ⟨k9, h9⟩) pre x suf hsplit
    (fun z hz => by
      rcases hpass z hz with h | ⟨hz0, nm, hl1, hn1⟩
      · exact Or.inl h
      · obtain ⟨c6, hc6, hcl6⟩ := Cond.classLink_spec hown hl1 e.platform hpl
        obtain ⟨a8, b8, h1, h2, h3⟩ := hn1
        cases Option.some.inj (h1.symm.trans hcl)
        cases Option.some.inj (h2.symm.trans hc6)
        exact Or.inr ⟨hz0, _, hcl6, h3⟩) hx (Or.inr ⟨h0, c4, hcl5, hasg⟩)
  obtain ⟨t, a1, b1⟩ := kk (T.setVm vm') hT X'
  exact ⟨t, st.trans a1, b1⟩
end Rows
section Ends
variable {p : Program} {l : Launch} {e : Env} {R : Room} {s : State} {m : MethodId} {args : Array Value} {below : List Frame} {meth : Method} {c : Code} {H : Heap} {locs : List Loc} {cells slots : Nat} {Q : State → Prop}
variable {mc ms : Nat} {free : Addr → Prop} {A0 A1 : Nat → Prop} {H0 : Heap} {a : Array Value} {ls : Array Slot} {st0 rest : List Value}
variable {Qc : Array Value → State → Outcome → State → Prop} {XC : String → State → State → Prop}
/-- what a body that may throw owes at its end -/
def vx_MQ (below : List Frame) (Qc : Array Value → State → Outcome → State → Prop) (XC : String → State → State → Prop) (a : Array Value) (s : State) (mc ms : Nat) (free : Addr → Prop) : State → Prop := fun t =>
  ∃ o, t.status = .running ∧ Ended t below o ∧ vx_Q Qc XC mc ms free a s o t
theorem vx_ret {g : JFrame} {mc ms : Nat} (k : W p l e R s m args below meth c H locs cells slots (MQ below Qc args s mc ms free) g) : W p l e R s m args below meth c H locs cells slots (vx_MQ below Qc XC args s mc ms free) g := by
  intro T hT X
  obtain ⟨t, a1, o, b1, b2, b3, b4⟩ := k T hT X
  exact ⟨t, a1, o, b1, b2, Or.inl ⟨b3, b4⟩⟩
/-- not caught here: it goes on to the caller -/
theorem vx_widen {g : JFrame} {q : Addr} {k n : Nat} (h1 : cells ≤ k) (h2 : slots ≤ n) (kk : vx_W p l e R s m args below meth c H locs k n Q g q) : vx_W p l e R s m args below meth c H locs cells slots Q g q := fun T hT X => kk T hT (stand_widen X h1 h2)
theorem vx_out {pc : Nat} {E : String} {ce : Cell} {q : Addr} {mc ms : Nat} (hout : ∀ x ∈ c.exceptionTable.toList, covers x pc = false) (hlocks : meth.locks = false) (hcell : H[q]? = some ce) (hv : ce.vm = .none) (hcl : s.vm.findClass E = some ce.cls)
    (hx : ∀ t : State, t.heap = H → s.vm.Alike t.vm → XC E s t) (hf : ∀ z ∈ locs, free z.base) (hc : cells ≤ mc) (hs : slots ≤ ms) :
    vx_W p l e R s m args below meth c H locs cells slots (vx_MQ below Qc XC args s mc ms free) (F0 m pc ls rest) q := by
  intro T hT X
  obtain ⟨st1, hrun, hend, hW, hsm⟩ := X.leaveThrown q (g := F0 m pc ls rest) rfl rfl rfl hout hlocks
  have hcell9 : (T.setFrames (.throwing q :: below)).heap[q]? = some ce := by
    show T.heap[q]? = some ce
    rw [hT]; exact hcell
  exact ⟨_, st1, .threw q, hrun, hend, Or.inr ⟨q, rfl, E, ce, locs, hx _ hT hW.alike, hcell9, hv, hcl, hW, hsm.mono hc hs, hf⟩⟩
theorem vx_frame {U : State} {k n : Nat} (h : s.sameButNew ({ U with vm := s.vm } : State) locs k n) : s.heap.size ≤ U.heap.size ∧ ∀ q : Nat, q < s.heap.size → (∀ z ∈ locs, z.base ≠ q) → U.heap[q]? = s.heap[q]? := by
  obtain ⟨-, h2, -, -, -, h6⟩ := h
  refine ⟨h2, fun q hq hz => ?_⟩
  obtain ⟨c9, e1, e2, e3, e4⟩ := h6 q _ (Array.getElem?_eq_getElem hq)
  have hs : c9.slots = (s.heap[q]).slots := Array.ext_getElem? fun i => e4 i fun hm => hz _ hm rfl
  have h9 : c9 = s.heap[q] := by
    rw [hs] at e2
    exact e2
  have e5 : U.heap[q]? = some c9 := e1
  rw [e5, h9, Array.getElem?_eq_getElem hq]
/-- the words of a throw but the four that speak of the heap -/
def vx_no (w : Cond) : Bool := decide (w ≠ .isRef (.static Bundle.tN "UNASSIGNED_STACK" Bundle.steD)) && decide (w ≠ .isRef (.static Bundle.tN "SUPPRESSED_SENTINEL" Bundle.listD)) && decide (w ≠ .laysStatic Bundle.tN "UNASSIGNED_STACK" Bundle.steD) && decide (w ≠ .laysStatic Bundle.tN "SUPPRESSED_SENTINEL" Bundle.listD)
def vx_at0 (own : String) (ic : Nat) (X : String) (names : List String) : List Cond := (Bundle.ownAtoms0 own ic X names).filter vx_no
def vx_atS (own : String) (ic : Nat) (X : String) (names : List String) : List Cond := (Bundle.ownAtoms own ic X names).filter vx_no
/-- a word that the tables alone decide, or a good one -/
def vx_ot (w : Cond) : Bool := w.onTables || goodWord w
theorem vx_ot_at {args a' : Array Value} {s U : State} {w : Cond} (hW : s.WarmedH U.vm) (hvm : s.vm = U.vm) (hg : vx_ot w = true) (h : w.before args s = true) : w.before a' U = true := by
  simp only [vx_ot, Bool.or_eq_true] at hg
  rcases hg with hg | hg
  · exact va_tabs hg hvm h
  · exact word_at hW (good_of_word hg) h
/-- a list's words: the good ones out of the method's own list, the others by premises of their own -/
theorem vx_hat {args : Array Value} {s : State} {L B : List Cond} (h1 : ∀ w ∈ L.filter goodWord, w.before args s = true) (h2 : ∀ w ∈ L.filter (fun w => !goodWord w), w ∈ B) (h3 : ∀ w ∈ B, w.before args s = true) : ∀ w ∈ L, w.before args s = true := by
  intro w hw
  by_cases g : goodWord w = true
  · exact h1 w (List.mem_filter.mpr ⟨hw, g⟩)
  · refine h3 w (h2 w (List.mem_filter.mpr ⟨hw, ?_⟩))
    show (!goodWord w) = true
    cases hgw : goodWord w
    · rfl
    · exact absurd hgw g
theorem vx_c {args : Array Value} {s : State} {w : Cond} {B : List Cond} (h : w.before args s = true) (t : ∀ w ∈ B, w.before args s = true) : ∀ w' ∈ w :: B, w'.before args s = true := fun w' h' => (List.mem_cons.mp h').elim (fun e => by rw [e]; exact h) (t w')
theorem vx_n {args : Array Value} {s : State} : ∀ w ∈ ([] : List Cond), w.before args s = true := fun _ h => nomatch h
theorem vx_own {args : Array Value} {s : State} {L : List Cond} (h1 : ∀ w ∈ L.filter vx_no, w.before args s = true)
    (hU : (Cond.isRef (.static Bundle.tN "UNASSIGNED_STACK" Bundle.steD)).before args s = true) (hN : (Cond.isRef (.static Bundle.tN "SUPPRESSED_SENTINEL" Bundle.listD)).before args s = true)
    (lU : (Cond.laysStatic Bundle.tN "UNASSIGNED_STACK" Bundle.steD).before args s = true) (lN : (Cond.laysStatic Bundle.tN "SUPPRESSED_SENTINEL" Bundle.listD).before args s = true) : ∀ w ∈ L, w.before args s = true := by
  intro w hw
  by_cases e1 : w = .isRef (.static Bundle.tN "UNASSIGNED_STACK" Bundle.steD)
  · rw [e1]; exact hU
  · by_cases e2 : w = .isRef (.static Bundle.tN "SUPPRESSED_SENTINEL" Bundle.listD)
    · rw [e2]; exact hN
    · by_cases e3 : w = .laysStatic Bundle.tN "UNASSIGNED_STACK" Bundle.steD
      · rw [e3]; exact lU
      · by_cases e4 : w = .laysStatic Bundle.tN "SUPPRESSED_SENTINEL" Bundle.listD
        · rw [e4]; exact lN
        · exact h1 w (List.mem_filter.mpr ⟨hw, by unfold vx_no; rw [decide_eq_true e1, decide_eq_true e2, decide_eq_true e3, decide_eq_true e4]; rfl⟩)
/-- where a static field lies, its class's statics cell in H -/
def vx_L (C n d : String) (A : Nat → Prop) (U : State) (H : Heap) : Prop := ∃ (c : ClassId) (k : Class) (i : Nat) (f : Field) (a : Nat) (cell : Cell), U.vm.findClass C = some c ∧ U.fieldFound? C n d = some (c, k, i, f) ∧ f.isStatic = true ∧ k.statics = some a ∧ H[a]? = some cell ∧ cell.vm.isStatics = true ∧ cell.cls = c ∧ f.slot < cell.slots.size ∧ k.staticTypes[f.slot]? = some f.type ∧ ¬ A a
theorem vx_L.moved {C n d : String} {A : Nat → Prop} {u U : State} {H : Heap} (hvm : u.vm.Alike U.vm) (h : vx_L C n d A u H) : vx_L C n d A U H := by
  obtain ⟨c, k, i, f, a, cell, h1, h2, h3, h4, h5, h6, h7, h8, h9, h10⟩ := h
  obtain ⟨k', hi', he⟩ := State.fieldFound?_setVm hvm h2
  exact ⟨c, k', i, f, a, cell, by rw [hvm.findClass]; exact h1, hi', h3, by rw [he]; exact h4, h5, h6, h7, h8, by rw [he]; exact h9, h10⟩
theorem vx_L.kept {C n d : String} {A : Nat → Prop} {U : State} {H H1 : Heap} (h : vx_L C n d A U H) (hq : ∀ a : Nat, a < H.size → ¬ A a → H1[a]? = H[a]?) : vx_L C n d A U H1 := by
  obtain ⟨c, k, i, f, a, cell, h1, h2, h3, h4, h5, h6, h7, h8, h9, h10⟩ := h
  exact ⟨c, k, i, f, a, cell, h1, h2, h3, h4, by rw [hq a (Array.getElem?_eq_some_iff.mp h5).1 h10]; exact h5, h6, h7, h8, h9, h10⟩
theorem vx_L.narrow {C n d : String} {A B : Nat → Prop} {U : State} {H : Heap} (h : vx_L C n d A U H) (hAB : ∀ q, B q → A q) : vx_L C n d B U H := by
  obtain ⟨c, k, i, f, a, cell, h1, h2, h3, h4, h5, h6, h7, h8, h9, h10⟩ := h
  exact ⟨c, k, i, f, a, cell, h1, h2, h3, h4, h5, h6, h7, h8, h9, fun z => h10 (hAB _ z)⟩
theorem vx_L.word {C n d : String} {A : Nat → Prop} {s : State} {args : Array Value} (h : vx_L C n d A s s.heap) : (Cond.laysStatic C n d).before args s = true := by
  obtain ⟨c, k, i, f, a, cell, h1, h2, h3, h4, h5, h6, h7, h8, h9, -⟩ := h
  show (Cond.laysStatic C n d).holds args s none s [] = true
  exact Cond.laysStatic_of h1 h2 h3 h4 h5 h6 h7 h8 h9
/-- .. and what it holds: null or some reference -/
def vx_Zq (C n d : String) (A : Nat → Prop) (U : State) (H : Heap) : Prop := va_Zq C n d A U H ∧ vx_L C n d A U H
theorem vx_Zq.moved {C n d : String} {A : Nat → Prop} {u U : State} {H : Heap} (hvm : u.vm.Alike U.vm) (h : vx_Zq C n d A u H) : vx_Zq C n d A U H := ⟨va_Zq.moved hvm h.1, vx_L.moved hvm h.2⟩
theorem vx_Zq.kept {C n d : String} {A : Nat → Prop} {U : State} {H H1 : Heap} (h : vx_Zq C n d A U H) (hq : ∀ a : Nat, a < H.size → ¬ A a → H1[a]? = H[a]?) : vx_Zq C n d A U H1 := ⟨va_Zq.kept h.1 hq, vx_L.kept h.2 hq⟩
theorem vx_Zq.narrow {C n d : String} {A B : Nat → Prop} {U : State} {H : Heap} (h : vx_Zq C n d A U H) (hAB : ∀ q, B q → A q) : vx_Zq C n d B U H := ⟨va_Zq.narrow h.1 hAB, vx_L.narrow h.2 hAB⟩
theorem vx_Zqof {args : Array Value} {s : State} {C n d : String} {A : Nat → Prop} (hl : (Cond.laysStatic C n d).before args s = true) (hini : (Cond.initialized C).before args s = true) (h : (Cond.isRef (.static C n d)).before args s = true) (hA : ∀ a : Nat, a < s.heap.size → ¬ A a) : vx_Zq C n d A s s.heap := by
  refine ⟨va_Zqof hl hini h hA, ?_⟩
  obtain ⟨c, k, i, f, a, cell, h1, h2, h3, h4, h5, h6, h7, h8, h9⟩ := Cond.laysStatic_spec hl
  exact ⟨c, k, i, f, a, cell, h1, h2, h3, h4, h5, h6, h7, h8, h9, hA a (Array.getElem?_eq_some_iff.mp h5).1⟩
theorem vx_isRef {C n d : String} {v : Value} {A : Nat → Prop} {s : State} {args : Array Value} (h : va_Z C n d v A s s.heap) (hv : v.isRef = true) : (Cond.isRef (.static C n d)).before args s = true := by
  obtain ⟨cf, kf, fi, f, a, cell, h1, h2, h3, h4, h5, h6, h7, -⟩ := h
  have he : (Term.static C n d).eval args s none [] s = some v := by
    simp [Term.eval, State.fieldNamed?, h1, h2, h4, h5, h6, h7]
  simp only [Cond.before, Cond.holds, Cond.value, he]
  cases v <;> simp_all [Value.isRef]
theorem vx_isRefq {C n d : String} {A : Nat → Prop} {s : State} {args : Array Value} (h : va_Zq C n d A s s.heap) : (Cond.isRef (.static C n d)).before args s = true := by
  rcases h with h | ⟨t, h⟩
  · exact vx_isRef h rfl
  · exact vx_isRef h rfl
/-- the same frame, seen from here: as if the method were called anew in this heap -/
theorem vx_rebase {T : State} (X : Stand p l e R s m args below meth c T locs cells slots) {R' : Room} (hf : R'.frames ≤ R.frames) (hl : R'.locals ≤ R.locals) (hc : cells + R'.cells ≤ R.cells) (hs : slots + R'.slots ≤ R.slots) :
    Stand p l e R' ((T.setVm s.vm).setFrames (.invoking m args :: below)) m args below meth c T [] 0 0 := by
  have htop : (T.setVm s.vm).topJava?.isSome := X.here.top
  have hF : ((T.setVm s.vm).setFrames (.invoking m args :: below)).frames = .invoking m args :: below := State.frames_setFrames _ (State.cur_lt_of_top htop)
  obtain ⟨g₀, hg0⟩ := Option.isSome_iff_exists.mp htop
  obtain ⟨r, hr⟩ := State.topJava?_eq_some.mp hg0
  have hl9 : e.platform.stackLimits (T.setVm s.vm).me = e.platform.stackLimits s.me := X.limits
  have hb9 : (T.setVm s.vm).me.stackBytes = s.me.stackBytes := X.bytes
  refine ⟨X.admits, X.cas, X.clock, hF, ?_, X.hears, X.method, X.code, X.here, X.tail, X.warmed, ?_, ?_, ?_⟩
  · have h := X.room
    have hU : ((T.setVm s.vm).setFrames (.invoking m args :: below)).localsInUse = s.localsInUse := by
      rw [State.localsInUse_invoking hF (meth := meth) (c := c) X.method X.code, State.localsInUse_invoking X.frames X.method X.code]
    simp only [State.hasRoom, Bool.and_eq_true, decide_eq_true_eq] at h ⊢
    obtain ⟨⟨⟨⟨h1, h2, h3, h4, h5, h6⟩, h7⟩, h8⟩, h9⟩ := h
    rw [X.frames, List.length_cons] at h2 h3
    have q1 := X.heapSize
    have q2 := X.used
    simp only [hF, hU, List.length_cons, State.stackLimits_setFrames, State.stackBytes_setFrames, hl9, hb9]
    refine ⟨⟨⟨⟨by omega, by omega, by omega, by omega, by omega, h6⟩, ?_⟩, ?_⟩, X.book⟩
    · show T.heap.size + R'.cells ≤ e.platform.maxCells
      omega
    · show T.slotsUsed + R'.slots ≤ e.platform.maxSlots
      omega
  · rw [State.stackLimits_setFrames]; rfl
  · rw [State.stackBytes_setFrames]; rfl
  · refine ⟨?_, Nat.le_refl _, Nat.le_refl _, ?_, ?_, fun a c9 h9 => ⟨c9, h9, rfl, rfl, fun _ _ => rfl⟩⟩
    · obtain ⟨t, ht, -⟩ := State.frames_cons hr
      show T.setVm s.vm = { ((T.setVm s.vm).setFrames (.invoking m args :: below)).setFrames (T.setVm s.vm).frames with heap := T.heap, slotsUsed := T.slotsUsed }
      rw [State.setFrames_setFrames, State.setFrames_self ht]
      rfl
    · show T.slotsUsed = T.slotsUsed + ((T.heap.toList.drop T.heap.size).map (·.slots.size)).sum
      rw [List.drop_eq_nil_of_le (Nat.le_of_eq Array.length_toList)]
      rfl
    · show ((T.heap.toList.drop T.heap.size).map (·.slots.size)).sum ≤ 0
      rw [List.drop_eq_nil_of_le (Nat.le_of_eq Array.length_toList)]
      exact Nat.le_refl _
/-- 'throw new E()': new; dup; invokespecial; athrow -/
theorem vx_throw0 {cc : ByteArray} {pc : Nat} (hexec : p.tables.exec = Jvm.exec) (hb : c.code = cc) (hl : l.stackTraces = false) {own cls : String} {names : List String} {ik ic mc ms : Nat} {A : Nat → Prop}
    (hown : s.vm.findClass own = some m.cls) (hcls : Bundle.fit cls = true) (hnames : ∀ n ∈ names, Bundle.fit n = true)
    (hk : (Cond.classLink own ik cls).before args s = true) (hini : (Cond.initialized cls).before args s = true) (hat : ∀ w ∈ vx_at0 own ic cls names, w.before args s = true)
    (hgood : ∀ w ∈ Cond.classLink own ik cls :: Cond.initialized cls :: vx_at0 own ic cls names, vx_ot w = true)
    (hU : vx_Zq Bundle.tN "UNASSIGNED_STACK" Bundle.steD A s s.heap) (hN : vx_Zq Bundle.tN "SUPPRESSED_SENTINEL" Bundle.listD A s s.heap) (hS : va_S A s.heap H locs) (hsize : ls.size = c.maxLocals)
    (d0 : decode cc pc = .ok (.new ik, 3)) (d3 : decode cc (pc + 3) = .ok (.dup, 1)) (d4 : decode cc (pc + 4) = .ok (.invokespecial ic, 3)) (d7 : decode cc (pc + 7) = .ok (.athrow, 1))
    (hout : ∀ x ∈ c.exceptionTable.toList, covers x (pc + 7) = false)
    (hRframes : names.length + 3 < R.frames) (hRlocals : (rest.map fun v => v.category).sum + (13 * (names.length + 1) + 42) ≤ R.locals) (hRcells : cells + 1 ≤ R.cells) (hRslots : slots + 6 ≤ R.slots) (hlocks : meth.locks = false)
    (hx : ∀ t : State, s.vm.Alike t.vm → H.size ≤ t.heap.size → (∀ q : Nat, q < H.size → t.heap[q]? = H[q]?) → XC cls s t)
    (hf : ∀ z ∈ locs, free z.base) (hc : cells + 1 ≤ mc) (hs : slots + 6 ≤ ms) :
    W p l e R s m args below meth c H locs cells slots (vx_MQ below Qc XC args s mc ms free) (F0 m pc ls rest) := by
  intro T hT X
  have htr : e.platform.stackTraces = false := (show e.platform.stackTraces = l.stackTraces by rw [X.admits.platform]).trans hl
  have Y := vx_rebase X (R' := { frames := R.frames, locals := R.locals, cells := 1, slots := 6 }) (Nat.le_refl _) (Nat.le_refl _) hRcells hRslots
  obtain ⟨s', hA⟩ : ∃ z, z = (T.setVm s.vm).setFrames (.invoking m args :: below) := ⟨_, rfl⟩
  rw [← hA] at Y
  have hvm : s'.vm = s.vm := by rw [hA]; rfl
  have hhp : s'.heap = H := by rw [hA]; exact hT
  have hW0 : s.WarmedH s'.vm := by rw [hvm]; exact State.WarmedH.refl s
  have hat' : ∀ w ∈ vx_at0 own ic cls names, w.before args s' = true := fun w hw => vx_ot_at hW0 hvm.symm (hgood w (List.mem_cons_of_mem _ (List.mem_cons_of_mem _ hw))) (hat w hw)
  have hk' : (Cond.classLink own ik cls).before args s' = true := vx_ot_at hW0 hvm.symm (hgood _ List.mem_cons_self) hk
  have hini' : (Cond.initialized cls).before args s' = true := vx_ot_at hW0 hvm.symm (hgood _ (List.mem_cons_of_mem _ List.mem_cons_self)) hini
  have hU' : vx_Zq Bundle.tN "UNASSIGNED_STACK" Bundle.steD A s' s'.heap := by rw [hhp]; exact vx_Zq.moved hW0.alike (hU.kept hS.2.1)
  have hN' : vx_Zq Bundle.tN "SUPPRESSED_SENTINEL" Bundle.listD A s' s'.heap := by rw [hhp]; exact vx_Zq.moved hW0.alike (hN.kept hS.2.1)
  have h : ∀ w ∈ Bundle.ownAtoms0 own ic cls names, w.before args s' = true := vx_own hat' (vx_isRefq hU'.1) (vx_isRefq hN'.1) hU'.2.word hN'.2.word
  have hown' : s'.vm.findClass own = some m.cls := by rw [hvm]; exact hown
  have hins : (Cond.instantiable cls 6).before args s' = true := h _ (by simp [Bundle.ownAtoms0])
  obtain ⟨vm₁, cX, kX, hfX, hkX, -, -, X₁, st1⟩ := Y.newCold hexec (own := own) (C := cls) (index := ik) (n := 6) hown' hk' hins hini'
    (g := F0 m pc ls rest) rfl (by rw [hb]; exact d0) (Nat.le_refl _) (Nat.le_refl _)
  generalize hT1 : (T.setVm vm₁).pushCell { cls := cX, slots := kX.instanceTypes.map defaultValue, vm := .none } = T1 at X₁ st1
  have hcat : (Value.ref T.heap.size).category = 1 := rfl
  have hcellA : T1.heap[T.heap.size]? = some (freshCell cX kX) := by rw [← hT1]; exact State.heap_pushCell_size _ _
  have d3' : decode c.code (pc + 3) = .ok (.dup, 1) := by rw [hb]; exact d3
  obtain ⟨U, hsteps, hrun, hend, hW, hsame, ce, hce, hO⟩ := X₁.ctorThrow0 hexec htr (own := own) (cls := cls) (names := names) (ic := ic) hown' hcls hnames h (fun x hx => nomatch hx) hfX hkX hcellA (by rw [hhp, hT]; exact Nat.le_refl _)
    (g := { method := m, pc := pc + 4, locals := ls, stack := .ref T.heap.size :: .ref T.heap.size :: rest, locked := none }) rfl hsize rfl rfl (rest := rest) rfl
    (by rw [hb]; exact d4) (by rw [hb]; exact d7) hout hRframes (by simp only [List.map_cons, List.sum_cons, hcat]; omega) hlocks
  obtain ⟨f1, f2⟩ := vx_frame hsame
  rw [hhp] at f1 f2
  have hWs : s.WarmedH U.vm := State.WarmedH.trans hW0 hW
  have hcl : s.vm.findClass cls = some ce.cls := by
    have h9 := hO.cls
    rw [hvm] at h9
    exact h9
  have hall : s.sameButNew ({ U with vm := s.vm } : State) locs mc ms := by
    subst hA
    obtain ⟨e1, e2⟩ := hsame
    rw [State.setFrames_setFrames] at e1
    have h2 : (T.setVm s.vm).sameButNew ({ U with vm := s.vm } : State) [] (0 + 1) (0 + 6) := ⟨e1, e2⟩
    have h3 := X.same.trans h2
    rw [List.append_nil] at h3
    exact h3.mono hc hs
  refine ⟨U, ?_, .threw T.heap.size, hrun, hend, Or.inr ⟨T.heap.size, rfl, cls, ce, locs, hx U hWs.alike f1 (fun q hq => f2 q hq (fun z hz => nomatch hz)), hce, hO.vm, hcl, hWs, hall, hf⟩⟩
  refine st1 _ ?_
  show Steps p.tables e below (T1.setTop { method := m, pc := pc + 3, locals := ls, stack := .ref T.heap.size :: rest, locked := none }) _
  jvm_step X₁.here [X₁.here.top, hexec, d3', Value.category]
  exact hsteps
/-- 'throw new E("text")': new; dup; ldc; invokespecial; athrow -/
theorem vx_throwS {cc : ByteArray} {pc : Nat} (hexec : p.tables.exec = Jvm.exec) (hb : c.code = cc) (hl : l.stackTraces = false) {own cls text : String} {names : List String} {ik is ic mc ms sa : Nat} {A : Nat → Prop}
    (hown : s.vm.findClass own = some m.cls) (hcls : Bundle.fit cls = true) (hnames : ∀ n ∈ names, Bundle.fit n = true)
    (hk : (Cond.classLink own ik cls).before args s = true) (hini : (Cond.initialized cls).before args s = true) (hstr : vk_R own is text sa s) (hat : ∀ w ∈ vx_atS own ic cls names, w.before args s = true)
    (hgood : ∀ w ∈ Cond.classLink own ik cls :: Cond.initialized cls :: vx_atS own ic cls names, vx_ot w = true)
    (hU : vx_Zq Bundle.tN "UNASSIGNED_STACK" Bundle.steD A s s.heap) (hN : vx_Zq Bundle.tN "SUPPRESSED_SENTINEL" Bundle.listD A s s.heap) (hS : va_S A s.heap H locs) (hsize : ls.size = c.maxLocals)
    (d0 : decode cc pc = .ok (.new ik, 3)) (d3 : decode cc (pc + 3) = .ok (.dup, 1)) (d4 : decode cc (pc + 4) = .ok (.ldc is, 2)) (d6 : decode cc (pc + 6) = .ok (.invokespecial ic, 3)) (d9 : decode cc (pc + 9) = .ok (.athrow, 1))
    (hout : ∀ x ∈ c.exceptionTable.toList, covers x (pc + 9) = false)
    (hRframes : names.length + 3 < R.frames) (hRlocals : (rest.map fun v => v.category).sum + (13 * (names.length + 1) + 43) ≤ R.locals) (hRcells : cells + 1 ≤ R.cells) (hRslots : slots + 6 ≤ R.slots) (hlocks : meth.locks = false)
    (hx : ∀ t : State, s.vm.Alike t.vm → H.size ≤ t.heap.size → (∀ q : Nat, q < H.size → t.heap[q]? = H[q]?) → XC cls s t)
    (hf : ∀ z ∈ locs, free z.base) (hc : cells + 1 ≤ mc) (hs : slots + 6 ≤ ms) :
    W p l e R s m args below meth c H locs cells slots (vx_MQ below Qc XC args s mc ms free) (F0 m pc ls rest) := by
  intro T hT X
  have htr : e.platform.stackTraces = false := (show e.platform.stackTraces = l.stackTraces by rw [X.admits.platform]).trans hl
  have Y := vx_rebase X (R' := { frames := R.frames, locals := R.locals, cells := 1, slots := 6 }) (Nat.le_refl _) (Nat.le_refl _) hRcells hRslots
  obtain ⟨s', hA⟩ : ∃ z, z = (T.setVm s.vm).setFrames (.invoking m args :: below) := ⟨_, rfl⟩
  rw [← hA] at Y
  have hvm : s'.vm = s.vm := by rw [hA]; rfl
  have hhp : s'.heap = H := by rw [hA]; exact hT
  have hW0 : s.WarmedH s'.vm := by rw [hvm]; exact State.WarmedH.refl s
  have hat' : ∀ w ∈ vx_atS own ic cls names, w.before args s' = true := fun w hw => vx_ot_at hW0 hvm.symm (hgood w (List.mem_cons_of_mem _ (List.mem_cons_of_mem _ hw))) (hat w hw)
  have hk' : (Cond.classLink own ik cls).before args s' = true := vx_ot_at hW0 hvm.symm (hgood _ List.mem_cons_self) hk
  have hini' : (Cond.initialized cls).before args s' = true := vx_ot_at hW0 hvm.symm (hgood _ (List.mem_cons_of_mem _ List.mem_cons_self)) hini
  have hU' : vx_Zq Bundle.tN "UNASSIGNED_STACK" Bundle.steD A s' s'.heap := by rw [hhp]; exact vx_Zq.moved hW0.alike (hU.kept hS.2.1)
  have hN' : vx_Zq Bundle.tN "SUPPRESSED_SENTINEL" Bundle.listD A s' s'.heap := by rw [hhp]; exact vx_Zq.moved hW0.alike (hN.kept hS.2.1)
  have h : ∀ w ∈ Bundle.ownAtoms own ic cls names, w.before args s' = true := vx_own hat' (vx_isRefq hU'.1) (vx_isRefq hN'.1) hU'.2.word hN'.2.word
  have hown' : s'.vm.findClass own = some m.cls := by rw [hvm]; exact hown
  have hins : (Cond.instantiable cls 6).before args s' = true := h _ (by simp [Bundle.ownAtoms])
  obtain ⟨vm₁, cX, kX, hfX, hkX, -, -, X₁, st1⟩ := Y.newCold hexec (own := own) (C := cls) (index := ik) (n := 6) hown' hk' hins hini'
    (g := F0 m pc ls rest) rfl (by rw [hb]; exact d0) (Nat.le_refl _) (Nat.le_refl _)
  generalize hT1 : (T.setVm vm₁).pushCell { cls := cX, slots := kX.instanceTypes.map defaultValue, vm := .none } = T1 at X₁ st1
  have hcat : (Value.ref T.heap.size).category = 1 := rfl
  have hcellA : T1.heap[T.heap.size]? = some (freshCell cX kX) := by rw [← hT1]; exact State.heap_pushCell_size _ _
  have d3' : decode c.code (pc + 3) = .ok (.dup, 1) := by rw [hb]; exact d3
  have d4' : decode c.code (pc + 4) = .ok (.ldc is, 2) := by rw [hb]; exact d4
  have hstr' : vk_R own is text sa s' := vk_R.warm hW0 hstr
  obtain ⟨U, hsteps, hrun, hend, hW, hsame, ce, hce, hO⟩ := X₁.ctorThrowS hexec htr (own := own) (cls := cls) (names := names) (ic := ic) hown' hcls hnames h (fun x hx => nomatch hx) hfX hkX hcellA (by rw [hhp, hT]; exact Nat.le_refl _) (msg := .ref sa) rfl
    (g := { method := m, pc := pc + 6, locals := ls, stack := .ref sa :: .ref T.heap.size :: .ref T.heap.size :: rest, locked := none }) rfl hsize rfl rfl (rest := rest) rfl
    (by rw [hb]; exact d6) (by rw [hb]; exact d9) hout hRframes (by simp only [List.map_cons, List.sum_cons, hcat]; omega) hlocks
  obtain ⟨f1, f2⟩ := vx_frame hsame
  rw [hhp] at f1 f2
  have hWs : s.WarmedH U.vm := State.WarmedH.trans hW0 hW
  have hcl : s.vm.findClass cls = some ce.cls := by
    have h9 := hO.cls
    rw [hvm] at h9
    exact h9
  have hall : s.sameButNew ({ U with vm := s.vm } : State) locs mc ms := by
    subst hA
    obtain ⟨e1, e2⟩ := hsame
    rw [State.setFrames_setFrames] at e1
    have h2 : (T.setVm s.vm).sameButNew ({ U with vm := s.vm } : State) [] (0 + 1) (0 + 6) := ⟨e1, e2⟩
    have h3 := X.same.trans h2
    rw [List.append_nil] at h3
    exact h3.mono hc hs
  refine ⟨U, ?_, .threw T.heap.size, hrun, hend, Or.inr ⟨T.heap.size, rfl, cls, ce, locs, hx U hWs.alike f1 (fun q hq => f2 q hq (fun z hz => nomatch hz)), hce, hO.vm, hcl, hWs, hall, hf⟩⟩
  refine st1 _ ?_
  show Steps p.tables e below (T1.setTop { method := m, pc := pc + 3, locals := ls, stack := .ref T.heap.size :: rest, locked := none }) _
  jvm_step X₁.here [X₁.here.top, hexec, d3', Value.category]
  exact X₁.ldcString hexec (own := own) (text := text) (index := is) (a := sa) hown' hstr'.1 hstr'.2
    (g := { method := m, pc := pc + 4, locals := ls, stack := .ref T.heap.size :: .ref T.heap.size :: rest, locked := none }) rfl d4' _ hsteps
/-- 'throw new E("text")', the text by a wide index -/
theorem vx_throwSW {cc : ByteArray} {pc : Nat} (hexec : p.tables.exec = Jvm.exec) (hb : c.code = cc) (hl : l.stackTraces = false) {own cls text : String} {names : List String} {ik is ic mc ms sa : Nat} {A : Nat → Prop}
    (hown : s.vm.findClass own = some m.cls) (hcls : Bundle.fit cls = true) (hnames : ∀ n ∈ names, Bundle.fit n = true)
    (hk : (Cond.classLink own ik cls).before args s = true) (hini : (Cond.initialized cls).before args s = true) (hstr : vk_R own is text sa s) (hat : ∀ w ∈ vx_atS own ic cls names, w.before args s = true)
    (hgood : ∀ w ∈ Cond.classLink own ik cls :: Cond.initialized cls :: vx_atS own ic cls names, vx_ot w = true)
    (hU : vx_Zq Bundle.tN "UNASSIGNED_STACK" Bundle.steD A s s.heap) (hN : vx_Zq Bundle.tN "SUPPRESSED_SENTINEL" Bundle.listD A s s.heap) (hS : va_S A s.heap H locs) (hsize : ls.size = c.maxLocals)
    (d0 : decode cc pc = .ok (.new ik, 3)) (d3 : decode cc (pc + 3) = .ok (.dup, 1)) (d4 : decode cc (pc + 4) = .ok (.ldc_w is, 3)) (d7 : decode cc (pc + 7) = .ok (.invokespecial ic, 3)) (d10 : decode cc (pc + 10) = .ok (.athrow, 1))
    (hout : ∀ x ∈ c.exceptionTable.toList, covers x (pc + 10) = false)
    (hRframes : names.length + 3 < R.frames) (hRlocals : (rest.map fun v => v.category).sum + (13 * (names.length + 1) + 43) ≤ R.locals) (hRcells : cells + 1 ≤ R.cells) (hRslots : slots + 6 ≤ R.slots) (hlocks : meth.locks = false)
    (hx : ∀ t : State, s.vm.Alike t.vm → H.size ≤ t.heap.size → (∀ q : Nat, q < H.size → t.heap[q]? = H[q]?) → XC cls s t)
    (hf : ∀ z ∈ locs, free z.base) (hc : cells + 1 ≤ mc) (hs : slots + 6 ≤ ms) :
    W p l e R s m args below meth c H locs cells slots (vx_MQ below Qc XC args s mc ms free) (F0 m pc ls rest) := by
  intro T hT X
  have htr : e.platform.stackTraces = false := (show e.platform.stackTraces = l.stackTraces by rw [X.admits.platform]).trans hl
  have Y := vx_rebase X (R' := { frames := R.frames, locals := R.locals, cells := 1, slots := 6 }) (Nat.le_refl _) (Nat.le_refl _) hRcells hRslots
  obtain ⟨s', hA⟩ : ∃ z, z = (T.setVm s.vm).setFrames (.invoking m args :: below) := ⟨_, rfl⟩
  rw [← hA] at Y
  have hvm : s'.vm = s.vm := by rw [hA]; rfl
  have hhp : s'.heap = H := by rw [hA]; exact hT
  have hW0 : s.WarmedH s'.vm := by rw [hvm]; exact State.WarmedH.refl s
  have hat' : ∀ w ∈ vx_atS own ic cls names, w.before args s' = true := fun w hw => vx_ot_at hW0 hvm.symm (hgood w (List.mem_cons_of_mem _ (List.mem_cons_of_mem _ hw))) (hat w hw)
  have hk' : (Cond.classLink own ik cls).before args s' = true := vx_ot_at hW0 hvm.symm (hgood _ List.mem_cons_self) hk
  have hini' : (Cond.initialized cls).before args s' = true := vx_ot_at hW0 hvm.symm (hgood _ (List.mem_cons_of_mem _ List.mem_cons_self)) hini
  have hU' : vx_Zq Bundle.tN "UNASSIGNED_STACK" Bundle.steD A s' s'.heap := by rw [hhp]; exact vx_Zq.moved hW0.alike (hU.kept hS.2.1)
  have hN' : vx_Zq Bundle.tN "SUPPRESSED_SENTINEL" Bundle.listD A s' s'.heap := by rw [hhp]; exact vx_Zq.moved hW0.alike (hN.kept hS.2.1)
  have h : ∀ w ∈ Bundle.ownAtoms own ic cls names, w.before args s' = true := vx_own hat' (vx_isRefq hU'.1) (vx_isRefq hN'.1) hU'.2.word hN'.2.word
  have hown' : s'.vm.findClass own = some m.cls := by rw [hvm]; exact hown
  have hins : (Cond.instantiable cls 6).before args s' = true := h _ (by simp [Bundle.ownAtoms])
  obtain ⟨vm₁, cX, kX, hfX, hkX, -, -, X₁, st1⟩ := Y.newCold hexec (own := own) (C := cls) (index := ik) (n := 6) hown' hk' hins hini'
    (g := F0 m pc ls rest) rfl (by rw [hb]; exact d0) (Nat.le_refl _) (Nat.le_refl _)
  generalize hT1 : (T.setVm vm₁).pushCell { cls := cX, slots := kX.instanceTypes.map defaultValue, vm := .none } = T1 at X₁ st1
  have hcat : (Value.ref T.heap.size).category = 1 := rfl
  have hcellA : T1.heap[T.heap.size]? = some (freshCell cX kX) := by rw [← hT1]; exact State.heap_pushCell_size _ _
  have d3' : decode c.code (pc + 3) = .ok (.dup, 1) := by rw [hb]; exact d3
  have d4' : decode c.code (pc + 4) = .ok (.ldc_w is, 3) := by rw [hb]; exact d4
  have hstr' : vk_R own is text sa s' := vk_R.warm hW0 hstr
  obtain ⟨U, hsteps, hrun, hend, hW, hsame, ce, hce, hO⟩ := X₁.ctorThrowS hexec htr (own := own) (cls := cls) (names := names) (ic := ic) hown' hcls hnames h (fun x hx => nomatch hx) hfX hkX hcellA (by rw [hhp, hT]; exact Nat.le_refl _) (msg := .ref sa) rfl
    (g := { method := m, pc := pc + 7, locals := ls, stack := .ref sa :: .ref T.heap.size :: .ref T.heap.size :: rest, locked := none }) rfl hsize rfl rfl (rest := rest) rfl
    (by rw [hb]; exact d7) (by rw [hb]; exact d10) hout hRframes (by simp only [List.map_cons, List.sum_cons, hcat]; omega) hlocks
  obtain ⟨f1, f2⟩ := vx_frame hsame
  rw [hhp] at f1 f2
  have hWs : s.WarmedH U.vm := State.WarmedH.trans hW0 hW
  have hcl : s.vm.findClass cls = some ce.cls := by
    have h9 := hO.cls
    rw [hvm] at h9
    exact h9
  have hall : s.sameButNew ({ U with vm := s.vm } : State) locs mc ms := by
    subst hA
    obtain ⟨e1, e2⟩ := hsame
    rw [State.setFrames_setFrames] at e1
    have h2 : (T.setVm s.vm).sameButNew ({ U with vm := s.vm } : State) [] (0 + 1) (0 + 6) := ⟨e1, e2⟩
    have h3 := X.same.trans h2
    rw [List.append_nil] at h3
    exact h3.mono hc hs
  refine ⟨U, ?_, .threw T.heap.size, hrun, hend, Or.inr ⟨T.heap.size, rfl, cls, ce, locs, hx U hWs.alike f1 (fun q hq => f2 q hq (fun z hz => nomatch hz)), hce, hO.vm, hcl, hWs, hall, hf⟩⟩
  refine st1 _ ?_
  show Steps p.tables e below (T1.setTop { method := m, pc := pc + 3, locals := ls, stack := .ref T.heap.size :: rest, locked := none }) _
  jvm_step X₁.here [X₁.here.top, hexec, d3', Value.category]
  exact X₁.ldcStringW hexec (own := own) (text := text) (index := is) (a := sa) hown' hstr'.1 hstr'.2
    (g := { method := m, pc := pc + 4, locals := ls, stack := .ref T.heap.size :: .ref T.heap.size :: rest, locked := none }) rfl d4' _ hsteps
end Ends
section Bodies
variable {l : Launch}
theorem vx_ofW {y : MethodName} {ws ws' : List Cond} {rm : Room} {Pc : Array Value → State → Prop} {Qc : Array Value → State → Outcome → State → Prop} {XC : String → State → State → Prop} {mc ms : Nat} {free : Addr → Prop} {cc : ByteArray} {maxL : Nat} {ret : Option FieldType}
    (hy : plainName y.cls = true) (hw : ws = Cond.code y cc maxL ret :: ws')
    (body : ∀ p e s m args below meth c s₁, BodyLoose p l y (headSpec ws rm) cc maxL ret e s m args below meth c s₁ → c.maxLocals = maxL → (∀ x ∈ c.exceptionTable.toList, False) → Pc args s →
      W p l e (headSpec ws rm).room s m args below meth c s.heap [] 0 0 (vx_MQ below Qc XC args s mc ms free) (entryFrame m args maxL)) : vx_Met l y ws rm Pc Qc XC mc ms free := by
  refine MetFree.of_bodyS (code := cc) (maxLocals := maxL) (ret := ret) hy ?_ ?_
  · intro args s m h hn
    obtain ⟨meth, c, h1, h2, h3, h4, h5, h6, -, -⟩ := Cond.code_spec hn (atoms_spec (ws := ws) h _ (by rw [hw]; exact List.mem_cons_self))
    exact ⟨meth, c, h1, h2, h3, h4, h5, h6⟩
  · intro p e s m args below meth c s₁ B hml hP _
    have hh0 : s₁.heap = s.heap := by rw [B.state]; rfl
    have ht : ∀ x ∈ c.exceptionTable.toList, False := by
      obtain ⟨meth9, c9, h1, h2, -, -, -, -, h7, -⟩ := Cond.code_spec B.named (atoms_spec (ws := ws) B.pre _ (by rw [hw]; exact List.mem_cons_self))
      cases Option.some.inj (h1.symm.trans B.method)
      cases Option.some.inj (h2.symm.trans (Stand.of_body B).code)
      intro x hx
      rw [Array.isEmpty_iff.mp h7] at hx
      cases hx
    obtain ⟨t, a1, o, b1, b2, b3⟩ := body p e s m args below meth c s₁ B hml ht hP s₁ hh0 (Stand.of_body B)
    exact ⟨t, o, a1, b1, b2, b3⟩
/-- the table of a body with handlers -/
theorem vx_table {p : Program} {x y : MethodName} {S : Spec} {cc bytes : ByteArray} {maxL maxL' : Nat} {ret ret' : Option FieldType} {e : Env} {s s₁ : State} {m : MethodId} {args : Array Value} {below : List Frame} {meth : Method} {c : Code} {hh : List (Nat × Nat × Nat × Nat)}
    (B : BodyLoose p l y S cc maxL ret e s m args below meth c s₁) (h : (Cond.codeWith y bytes maxL' ret' hh).before args s = true) : c.exceptionTable.toList = tableOf hh := by
  obtain ⟨m9, meth9, c9, hn9, h1, h2, -, -, h6, -⟩ := Cond.codeWith_spec h
  cases Option.some.inj (hn9.symm.trans B.named)
  cases Option.some.inj (h1.symm.trans B.method)
  cases Option.some.inj (h2.symm.trans (Stand.of_body B).code)
  rw [← h6, table_eq]
end Bodies
end VXA
/-! ===== END ===== -/
/-! ===== BEGIN a static call of a method with an exception table ===== -/
section VXS
variable {p : Program} {l : Launch} {e : Env} {R : Room} {s : State} {m : MethodId} {args : Array Value} {below : List Frame} {meth : Method} {c : Code} {T : State} {H : Heap} {locs : List Loc} {cells slots : Nat}
abbrev vx_CSW (R : Room) (s : State) (args : Array Value) (own : String) (index : Nat) (y : MethodName) (bytes : ByteArray) (maxL : Nat) (ret : Option FieldType) (hh : List (Nat × Nat × Nat × Nat)) (ws : List Cond) (rm : Room) (mc ms n : Nat) : Prop :=
  (rm.cells = mc ∧ rm.slots = ms ∧ rm.frames + 1 ≤ R.frames ∧ 8 + (maxL + 11) + rm.locals ≤ R.locals ∧ (∀ w ∈ ws, ∀ (a' : Array Value) (U : State), s.WarmedH U.vm → w.before a' U = true) ∧ Cond.codeWith y bytes maxL ret hh ∈ ws) ∧
  (Cond.codeWith y bytes maxL ret hh).before args s = true ∧ (Cond.initialized y.cls).before args s = true ∧ (y.cls ≠ "java/lang/invoke/MethodHandle" ∧ y.cls ≠ "java/lang/invoke/VarHandle") ∧
  (∀ sig, parseMethodDescriptor y.desc = some sig → n = sig.parameters.length) ∧ (Cond.methodLink own index y).before args s = true ∧ (Cond.static y).before args s = true
theorem vx_cwSW {own : String} {index maxL mc ms : Nat} {y : MethodName} {bytes : ByteArray} {ret : Option FieldType} {hh : List (Nat × Nat × Nat × Nat)} {Ts ws ws' : List Cond} {rm : Room} (n : Nat) (ht : ∀ w ∈ Ts, w.before args s = true) (hT : GoodIn Ts (va_wsS own index y ws)) (hw : ws = Cond.codeWith y bytes maxL ret hh :: ws') (hrc : rm.cells = mc) (hrs : rm.slots = ms)
    (hd : y.cls ≠ "java/lang/invoke/MethodHandle" ∧ y.cls ≠ "java/lang/invoke/VarHandle" ∧ (parseMethodDescriptor y.desc).map (fun d => d.parameters.length) = some n) (hR : rm.frames + 1 ≤ R.frames ∧ 8 + (maxL + 11) + rm.locals ≤ R.locals) :
    vx_CSW R s args own index y bytes maxL ret hh ws rm mc ms n := by
  have ok : ∀ w ∈ va_wsS own index y ws, w.before args s = true := fun w h => ht w (hT w h).1
  have hG : GoodIn Ts ws := fun w h => hT w (by unfold va_wsS; exact List.mem_append_right _ h)
  have hc : Cond.codeWith y bytes maxL ret hh ∈ ws := by rw [hw]; exact List.mem_cons_self
  refine ⟨⟨hrc, hrs, hR.1, hR.2, pay_in ht hG, hc⟩, ht _ (hG _ hc).1, ok _ (by simp [va_wsS]), ⟨hd.1, hd.2.1⟩, fun sig h => ?_, ok _ (by simp [va_wsS]), ok _ (by simp [va_wsS])⟩
  have h2 := hd.2.2
  rw [h] at h2
  exact (Option.some.inj h2).symm
theorem vx_callSW (X : Stand p l e R s m args below meth c T locs cells slots) (hexec : p.tables.exec = Jvm.exec) {own : String} {index : Nat} {y : MethodName} {bytes : ByteArray} {maxL : Nat} {ret : Option FieldType} {hh : List (Nat × Nat × Nat × Nat)}
    (hown : s.vm.findClass own = some m.cls) (hlink : (Cond.methodLink own index y).before args s = true) (hstat : (Cond.static y).before args s = true) (hinit : (Cond.initialized y.cls).before args s = true)
    (hcode : (Cond.codeWith y bytes maxL ret hh).before args s = true) (hy : y.cls ≠ "java/lang/invoke/MethodHandle" ∧ y.cls ≠ "java/lang/invoke/VarHandle")
    {W9 : Nat} {Pre : Pt → Array Value → Prop} {Post : Pt → Array Value → Option Value → Pt → Prop} (hK : Back l R p e below s args y 3 W9 Pre Post)
    {g : JFrame} (hg : g.method = m) (hsize : g.locals.size = c.maxLocals) {argsL rest : List Value} (hlen : ∀ sig, parseMethodDescriptor y.desc = some sig → argsL.length = sig.parameters.length)
    (hstack : g.stack = argsL.reverse ++ rest) (hW : 2 * g.monitorRoom + (rest.map fun v => v.category).sum ≤ W9) (hdg : decode c.code g.pc = .ok (.invokestatic index, 3))
    (hpre : ∀ vm₁, s.WarmedH vm₁ → Pre ⟨T.setVm vm₁, locs, cells, slots⟩ argsL.toArray) :
    ∃ (v : Option Value) (vm₁ : Vm) (B : Pt), s.WarmedH vm₁ ∧ Stand p l e R s m args below meth c B.U B.locs B.cells B.slots ∧ Post ⟨T.setVm vm₁, locs, cells, slots⟩ argsL.toArray v B ∧
      ∀ target, Steps p.tables e below (B.U.setTop { g with pc := g.pc + 3, stack := v.toList ++ rest }) target → Steps p.tables e below (T.setTop g) target := by
  obtain ⟨mk, methM, cM, hnamed, hmethM, -, -, -, -, -, -, hsigM⟩ := Cond.codeWith_spec hcode
  have hstatic : methM.isStatic = true := Cond.static_spec hnamed hmethM hstat
  obtain ⟨kP, hkP, -⟩ := className_of_methodNamed hnamed
  have hinitP : kP.init = .initialized := Cond.initialized_spec (findClass_of_methodNamed hnamed) hkP hinit
  obtain ⟨vm₁, X₁, hstep₁⟩ := X.invokestatic hexec hown hlink hnamed hmethM hstatic hkP hinitP hy (g := g) hg (argsL := argsL) (rest := rest) (hlen _ hsigM) hstack hdg
  obtain ⟨v, B, X', hpost, hsteps⟩ := hK m meth c ⟨T.setVm vm₁, locs, cells, slots⟩ { g with stack := rest } (.invokestatic index) mk argsL.toArray X₁ hg hsize hdg hW (X₁.named hnamed) (hpre vm₁ X₁.warmed)
  exact ⟨v, vm₁, B, X₁.warmed, X', hpost, fun target h => hstep₁ _ fun acts => by rw [doInvoke_state]; exact hsteps.trans h⟩
theorem vx_runSW {y : MethodName} {bytes cc : ByteArray} {maxL nL mc ms n index : Nat} {ret : Option FieldType} {hh : List (Nat × Nat × Nat × Nat)} {ws : List Cond} {rm : Room} {Pc : Array Value → State → Prop} {Qc : Array Value → State → Outcome → State → Prop} {free : Addr → Prop} {Ts : List Cond} {own : String} {As rest : List Value} {g : JFrame}
    (S : CallFix p m c cc nL s args Ts own) (hM : Met l y ws rm Pc Qc mc ms free) (cw : vx_CSW R s args own index y bytes maxL ret hh ws rm mc ms n) (hp : PreS s H Pc As)
    (hg : g.method = m) (hn : As.length = n) (hsize : g.locals.size = nL) (hstack : g.stack = As.reverse ++ rest) (hW : 2 * g.monitorRoom + (rest.map fun v => v.category).sum ≤ 8) (hdg : decode cc g.pc = .ok (.invokestatic index, 3)) (hf : cells + mc ≤ R.cells ∧ slots + ms ≤ R.slots) :
    va_Run p l e R s m args below meth c H locs cells slots mc ms g rest (Qc As.toArray) (free) := by
  obtain ⟨⟨hrc, hrs, hfr, hlo, hws, hcw⟩, hcode, hini, hy, hlen, hl, hstt⟩ := cw
  have hK : Back l R p e below s args y 3 8 (PreOf R mc ms Pc) (PostOf Qc mc ms free) := va_backW (hh := hh) (bytes := bytes) (maxL := maxL) (ret := ret) hM hp.1 hrc hrs hfr hlo hws hcw (fun a' U hW => word_at hW (Or.inl (by first | rfl | simp [Cond.onTables, Cond.keeps, Cond.steady])) hini)
  obtain ⟨hx, hb, hml, ho, -⟩ := S
  intro T hT X
  obtain ⟨v, vm₁, ⟨U', l2, c2, s2⟩, hW₁, X', ⟨g', mk, t, L, e1, e2, hq, h1, hL, h2, h3⟩, st⟩ := vx_callSW X hx (hh := hh) (bytes := bytes) (maxL := maxL) (ret := ret) ho hl hstt hini hcode hy hK hg (hsize.trans hml.symm) (argsL := As) (rest := rest) (fun sig h => hn.trans (hlen sig h)) hstack hW (by rw [hb]; exact hdg)
    (fun vm₁ hW₁ => ⟨hf.1, hf.2, hp.2 (T.setVm vm₁) hT hW₁⟩)
  dsimp only [Pt.U, Pt.locs, Pt.cells, Pt.slots] at X' e1 e2 h1 h2 h3 st
  subst h1; subst h2; subst h3
  exact ⟨v, (T.setVm vm₁).calling g' mk As.toArray, t, U', L, hT, X', hL, e1, e2, hq, st⟩
/-- not caught here, past rows that name other classes: it goes on to the caller -/
theorem vx_outP {p : Program} {l : Launch} {e : Env} {R : Room} {s : State} {m : MethodId} {args : Array Value} {below : List Frame} {meth : Method} {c : Code} {H : Heap} {locs : List Loc} {cells slots : Nat} {free : Addr → Prop} {ls : Array Slot} {rest : List Value} {Qc : Array Value → State → Outcome → State → Prop} {XC : String → State → State → Prop}
    {pc : Nat} {own E : String} {ce : Cell} {q : Addr} {mc ms : Nat} (hown : s.vm.findClass own = some m.cls) (hlocks : meth.locks = false)
    (hpass : ∀ z ∈ c.exceptionTable.toList, covers z pc = false ∨ (z.catchType ≠ 0 ∧ ∃ nm : String, (Cond.classLink own z.catchType nm).before args s = true ∧ va_Nc E nm s)) (hcell : H[q]? = some ce) (hv : ce.vm = .none) (hcl : s.vm.findClass E = some ce.cls)
    (hx : ∀ t : State, t.heap = H → s.vm.Alike t.vm → XC E s t) (hf : ∀ z ∈ locs, free z.base) (hc : cells ≤ mc) (hs : slots ≤ ms) :
    vx_W p l e R s m args below meth c H locs cells slots (vx_MQ below Qc XC args s mc ms free) (F0 m pc ls rest) q := by
  intro T hT X
  have hpl : e.platform.magicAccessors = ({} : Platform).magicAccessors := by rw [X.admits.platform]
  obtain ⟨vm', hW', X', st⟩ := X.outThrough hlocks q (g := F0 m pc ls rest) rfl rfl rfl (cell := ce) (by rw [hT]; exact hcell) (by rw [hv]; rfl)
    (by obtain ⟨k9, h9, -⟩ := Vm.findClass_spec hcl; exact ⟨k9, h9⟩) (fun z hz => by
      rcases hpass z hz with h | ⟨hz0, nm, hl1, hn1⟩
      · exact Or.inl h
      · obtain ⟨c6, hc6, hcl6⟩ := Cond.classLink_spec hown hl1 e.platform hpl
        obtain ⟨a8, b8, h1, h2, h3⟩ := hn1
        cases Option.some.inj (h1.symm.trans hcl)
        cases Option.some.inj (h2.symm.trans hc6)
        exact Or.inr ⟨hz0, _, hcl6, h3⟩)
  obtain ⟨g₀, hfr⟩ := X'.frames_eq
  have hcell9 : ((T.setVm vm').setFrames (.throwing q :: below)).heap[q]? = some ce := by
    show T.heap[q]? = some ce
    rw [hT]; exact hcell
  have hend : Ended ((T.setVm vm').setFrames (.throwing q :: below)) below (.threw q) := State.frames_setFrames _ (State.cur_lt_of_frames hfr)
  refine ⟨(T.setVm vm').setFrames (.throwing q :: below), ?_, .threw q, X'.here.running, hend, Or.inr ⟨q, rfl, E, ce, locs, hx _ hT (X'.ends _).1.alike, hcell9, hv, hcl, (X'.ends _).1, (X'.ends _).2.mono hc hs, hf⟩⟩
  rw [X.pushThrowing_eq]
  exact st
/-- a thing of a world lies in the heap -/
theorem vx_lt {D : va_G} {cl : List vw_C} {ws : va_W} {H1 : Heap} (h : va_P D cl ws H1) {k : Nat} {q : Nat × va_E} (hk : ws[k]? = some q) : q.1 < H1.size := (h k q hk).lt
end VXS
/-! ===== END ===== -/
/-! ===== BEGIN methods with a table of their own: called by a name, returning or throwing ===== -/
section VXH
/-! vx_backW, vx_callVX, vx_callSX, vx_callVW, vx_runVW, vx_runVX, vx_runSX, vx_ofWH follow the same proofs as their sisters above (Free/Laws.lean, Shelf42/LK1.lean); vx_outP calls Shelf42/NT130.lean (outThrough). -/
section
variable {l : Launch} {R : Room} {p : Program} {e : Env} {below : List Frame} {s : State} {sargs : Array Value} {y : MethodName} {len W9 : Nat}
theorem vx_backW {ws : List Cond} {rm : Room} {Pc : Array Value → State → Prop} {Qc : Array Value → State → Outcome → State → Prop} {XC : String → State → State → Prop} {mc ms : Nat} {free : Addr → Prop} {bytes : ByteArray} {maxL : Nat} {ret : Option FieldType} {hh : List (Nat × Nat × Nat × Nat)}
    (hM : vx_Met l y ws rm Pc Qc XC mc ms free) (hblind : FrameBlind Pc) (hrc : rm.cells = mc) (hrs : rm.slots = ms)
    (hframes : rm.frames + 1 ≤ R.frames) (hlocals : W9 + (maxL + 11) + rm.locals ≤ R.locals)
    (hws : ∀ w ∈ ws, ∀ a' U, s.WarmedH U.vm → w.before a' U = true) (hcode : Cond.codeWith y bytes maxL ret hh ∈ ws) (hinit : ∀ a' U, s.WarmedH U.vm → (Cond.initialized y.cls).before a' U = true) :
    vx_Back l R p e below s sargs y len W9 (PreOf R mc ms Pc) (PostOf Qc mc ms free) (vx_Post XC mc ms free) := by
  intro m meth c A g ig mk a X hg hsize hdg hW hn hp
  have h1 : (headSpec ws rm).pre.before a A.U = true := atoms_intro fun w hw => hws w hw _ _ X.warmed
  have h2 : (Cond.codeWith y bytes maxL ret hh).before a A.U = true := hws _ hcode _ _ X.warmed
  have h3 : (Cond.initialized y.cls).before a A.U = true := hinit _ _ X.warmed
  have h4 : A.cells + (headSpec ws rm).room.cells ≤ R.cells := by rw [show (headSpec ws rm).room.cells = mc from hrc]; exact hp.1
  have h5 : A.slots + (headSpec ws rm).room.slots ≤ R.slots := by rw [show (headSpec ws rm).room.slots = ms from hrs]; exact hp.2.1
  have hPc : Pc a (A.U.calling g mk a) := hblind _ _ _ _ hp.2.2
  obtain ⟨U, Ls, c0, s0⟩ := A
  dsimp only [Pt.U, Pt.locs, Pt.cells, Pt.slots] at h1 h2 h3 h4 h5 X hn hPc ⊢
  obtain ⟨m9, methY, cY, hn9, hmY, hcY, -, hlY, -⟩ := Cond.codeWith_spec h2
  cases Option.some.inj (hn9.symm.trans hn)
  obtain ⟨kY, hkY, -⟩ := className_of_methodNamed hn
  have hinitY : kY.init = .initialized := Cond.initialized_spec (findClass_of_methodNamed hn) hkY h3
  have h : At U g.method c below := by rw [hg]; exact X.here
  have hlocals9 : W9 + (maxL + 11) + (headSpec ws rm).room.locals ≤ R.locals := hlocals
  have happ : (headSpec ws rm).appliesLoose y e.platform (U.calling g mk a) = true :=
    Spec.appliesLoose_calling (g := g) h hdg hn hkY hinitY
      (X.room_calling (g := g) (R' := (headSpec ws rm).room) hsize hmY hcY hframes (by rw [hlY]; omega) h4 h5) h1
  obtain ⟨mid, hmid⟩ := h.above
  have hfr : (U.setTop g).frames = (.java g :: mid) ++ below := by rw [State.frames_setTop' g h.top, hmid]; rfl
  obtain ⟨o, s₂, hsteps, -, hend, hq⟩ := Steps.callFree hM p X.admits X.cas X.clock (acts := []) hfr happ hPc trivial
  have hq' : vx_Q Qc XC mc ms free a (U.calling g mk a) o s₂ := hq
  rw [State.frames_setTop' g h.top] at hend
  obtain ⟨g₀, hg0⟩ := Option.isSome_iff_exists.mp h.top
  obtain ⟨r, hr⟩ := State.topJava?_eq_some.mp hg0
  have hr' : (({ U with heap := s₂.heap, slotsUsed := s₂.slotsUsed } : State).setVm s₂.vm).frames = .java g₀ :: r := hr
  rcases hq' with ⟨hqc, L, hfe, hL⟩ | ⟨q, rfl, E, ce, L, hx, hce, hcv, hcl, hW₂, hsm, hL⟩
  · obtain ⟨⟨v, rfl⟩, hW₂, e2, q2, q3, q4, q5, q6⟩ := id hfe
    have e3 : s₂ = ({ (U.calling g mk a).setFrames s₂.frames with heap := s₂.heap, slotsUsed := s₂.slotsUsed } : State).setVm s₂.vm := by
      have : s₂ = ({ s₂ with vm := (U.calling g mk a).vm } : State).setVm s₂.vm := rfl
      rw [e2] at this
      exact this
    obtain ⟨c₂, i₂, len₂, hc₂, hd₂, hf₂⟩ := hend
    have hW' : U.WarmedH s₂.vm := hW₂
    have hcc : c₂ = c := by
      have h1 : s₂.code? g.method = U.code? g.method := by
        rw [State.code?_eq, State.code?_eq, hW'.alike.method?]
      exact Option.some.inj (hc₂.symm.trans (h1.trans h.code))
    subst hcc
    have hlen : len₂ = len := by rw [hdg] at hd₂; cases hd₂; rfl
    subst hlen
    have hs₂ : s₂ = (({ U with heap := s₂.heap, slotsUsed := s₂.slotsUsed } : State).setVm s₂.vm).setTop { g with pc := g.pc + len₂, stack := v.toList ++ g.stack } := by
      refine e3.trans ?_
      rw [hf₂, State.calling_eq h.top, State.setFrames_setFrames, State.setTop_of_frames _ hr', hr]
      rfl
    have hsame : U.sameButNew ({ U with heap := s₂.heap, slotsUsed := s₂.slotsUsed } : State) L mc ms := by
      refine ⟨?_, q2, q3, q4, q5, q6⟩
      obtain ⟨t, ht, -⟩ := State.frames_cons hr
      show ({ U with heap := s₂.heap, slotsUsed := s₂.slotsUsed } : State) = { U.setFrames U.frames with heap := s₂.heap, slotsUsed := s₂.slotsUsed }
      rw [State.setFrames_self ht]
    subst hg
    refine Or.inl ⟨v, ⟨(({ U with heap := s₂.heap, slotsUsed := s₂.slotsUsed } : State).setVm s₂.vm), Ls ++ L, c0 + mc, s0 + ms⟩,
      ⟨X.admits, X.cas, X.clock, X.frames, X.room, X.hears, X.method, X.code, (X.here.setHeapUsed s₂.heap s₂.slotsUsed).setVm hW'.alike, X.tail, State.WarmedH.trans X.warmed hW', X.limits, X.bytes, X.same.trans (hsame.setVm s.vm)⟩,
      ⟨g, mk, s₂, L, rfl, rfl, hqc, rfl, hL, rfl, rfl⟩, ?_⟩
    show Steps p.tables e below _ ((({ U with heap := s₂.heap, slotsUsed := s₂.slotsUsed } : State).setVm s₂.vm).setTop { g with pc := g.pc + len₂, stack := v.toList ++ g.stack })
    rw [← hs₂]
    exact hsteps
  · obtain ⟨e2, q2, q3, q4, q5, q6⟩ := id hsm
    have e3 : s₂ = ({ (U.calling g mk a).setFrames s₂.frames with heap := s₂.heap, slotsUsed := s₂.slotsUsed } : State).setVm s₂.vm := by
      have : s₂ = ({ s₂ with vm := (U.calling g mk a).vm } : State).setVm s₂.vm := rfl
      rw [e2] at this
      exact this
    have hf₂ : s₂.frames = .throwing q :: .java g :: U.frames.tail := hend
    have hW' : U.WarmedH s₂.vm := hW₂
    have hs₂ : s₂ = ((({ U with heap := s₂.heap, slotsUsed := s₂.slotsUsed } : State).setVm s₂.vm).setTop g).pushFrame (.throwing q) := by
      refine e3.trans ?_
      rw [hf₂, State.calling_eq h.top, State.setFrames_setFrames, State.pushFrame, State.frames_setTop _ hr', State.setTop_of_frames _ hr', State.setFrames_setFrames, hr]
      rfl
    have hsame : U.sameButNew ({ U with heap := s₂.heap, slotsUsed := s₂.slotsUsed } : State) L mc ms := by
      refine ⟨?_, q2, q3, q4, q5, q6⟩
      obtain ⟨t, ht, -⟩ := State.frames_cons hr
      show ({ U with heap := s₂.heap, slotsUsed := s₂.slotsUsed } : State) = { U.setFrames U.frames with heap := s₂.heap, slotsUsed := s₂.slotsUsed }
      rw [State.setFrames_self ht]
    subst hg
    refine Or.inr ⟨q, ⟨(({ U with heap := s₂.heap, slotsUsed := s₂.slotsUsed } : State).setVm s₂.vm), Ls ++ L, c0 + mc, s0 + ms⟩,
      ⟨X.admits, X.cas, X.clock, X.frames, X.room, X.hears, X.method, X.code, (X.here.setHeapUsed s₂.heap s₂.slotsUsed).setVm hW'.alike, X.tail, State.WarmedH.trans X.warmed hW', X.limits, X.bytes, X.same.trans (hsame.setVm s.vm)⟩,
      ⟨g, mk, s₂, L, E, ce, rfl, rfl, hx, hce, hcv, hcl, rfl, hL, rfl, rfl⟩, ?_⟩
    show Steps p.tables e below _ (((({ U with heap := s₂.heap, slotsUsed := s₂.slotsUsed } : State).setVm s₂.vm).setTop g).pushFrame (.throwing q))
    rw [← hs₂]
    exact hsteps
end
variable {p : Program} {l : Launch} {e : Env} {R : Room} {s : State} {m : MethodId} {args : Array Value} {below : List Frame} {meth : Method} {c : Code} {T : State} {H : Heap} {locs : List Loc} {cells slots : Nat}
theorem vx_callVX (X : Stand p l e R s m args below meth c T locs cells slots) (hexec : p.tables.exec = Jvm.exec) {own C : String} {index : Nat} {y : MethodName} {bytes : ByteArray} {maxL : Nat} {ret : Option FieldType} {hh : List (Nat × Nat × Nat × Nat)}
    (hown : s.vm.findClass own = some m.cls) (hlink : (Cond.methodLink own index y).before args s = true) (hinst : (Cond.instanceMethod y).before args s = true) (hsel : (Cond.selects C y y).before args s = true)
    (hcode : (Cond.codeWith y bytes maxL ret hh).before args s = true) (hy : y.cls ≠ "java/lang/invoke/MethodHandle" ∧ y.cls ≠ "java/lang/invoke/VarHandle")
    {W9 : Nat} {Pre : Pt → Array Value → Prop} {Post : Pt → Array Value → Option Value → Pt → Prop} {PostX : Pt → Array Value → Addr → Pt → Prop} (hK : vx_Back l R p e below s args y 3 W9 Pre Post PostX)
    {b : Addr} {cellB : Cell} (hcell : T.heap[b]? = some cellB) (hobj : cellB.vm.isStatics = false) (hcls : s.vm.findClass C = some cellB.cls)
    {g : JFrame} (hg : g.method = m) (hsize : g.locals.size = c.maxLocals) {argsL rest : List Value} (hlen : ∀ sig, parseMethodDescriptor y.desc = some sig → argsL.length = sig.parameters.length)
    (hstack : g.stack = argsL.reverse ++ .ref b :: rest) (hW : 2 * g.monitorRoom + (rest.map fun v => v.category).sum ≤ W9) (hdg : decode c.code g.pc = .ok (.invokevirtual index, 3))
    (hpre : ∀ vm₁, s.WarmedH vm₁ → Pre ⟨T.setVm vm₁, locs, cells, slots⟩ (Value.ref b :: argsL).toArray) :
    (∃ (v : Option Value) (vm₁ : Vm) (B : Pt), s.WarmedH vm₁ ∧ Stand p l e R s m args below meth c B.U B.locs B.cells B.slots ∧ Post ⟨T.setVm vm₁, locs, cells, slots⟩ (Value.ref b :: argsL).toArray v B ∧
      ∀ target, Steps p.tables e below (B.U.setTop { g with pc := g.pc + 3, stack := v.toList ++ rest }) target → Steps p.tables e below (T.setTop g) target) ∨
    (∃ (q : Addr) (vm₁ : Vm) (B : Pt), s.WarmedH vm₁ ∧ Stand p l e R s m args below meth c B.U B.locs B.cells B.slots ∧ PostX ⟨T.setVm vm₁, locs, cells, slots⟩ (Value.ref b :: argsL).toArray q B ∧
      Steps p.tables e below (T.setTop g) ((B.U.setTop { g with stack := rest }).pushFrame (.throwing q))) := by
  obtain ⟨mk, methM, hnamed, hmethM, hstM, habM⟩ := Cond.instanceMethod_spec hinst
  obtain ⟨m8, methM', cM, hn8, hmethM', -, -, -, -, -, -, hsigM⟩ := Cond.codeWith_spec hcode
  cases Option.some.inj (hn8.symm.trans hnamed)
  cases hmethM.symm.trans hmethM'
  obtain ⟨c2, r2, m2, q1, q2, q3, q4, kP, hkP, hkPi⟩ := Cond.selects_spec hsel
  cases hcls.symm.trans q1
  cases (State.methodFound?_of_named hnamed hy).symm.trans q2
  cases hnamed.symm.trans q3
  have hselP : selectMethod e.platform s.vm cellB.cls mk = .method mk := by rw [Launch.admits_selectMethod X.admits]; exact q4
  obtain ⟨vm₁, X₁, hstep₁⟩ := X.invokevirtual hexec hown hlink hnamed hmethM hstM hkP hkPi hy (a := b) (cell := cellB) hcell
    (fun z h => by rw [h] at hobj; cases hobj) hselP hmethM habM hkP hkPi (g := g) hg (argsL := argsL) (rest := rest) (hlen _ hsigM) hstack hdg
  rcases hK m meth c ⟨T.setVm vm₁, locs, cells, slots⟩ { g with stack := rest } (.invokevirtual index) mk (Value.ref b :: argsL).toArray X₁ hg hsize hdg hW (X₁.named hnamed) (hpre vm₁ X₁.warmed) with ⟨v, B, X', hpost, hsteps⟩ | ⟨q, B, X', hpost, hsteps⟩
  · exact Or.inl ⟨v, vm₁, B, X₁.warmed, X', hpost, fun target h => hstep₁ _ fun acts => by rw [doInvoke_state]; exact hsteps.trans h⟩
  · exact Or.inr ⟨q, vm₁, B, X₁.warmed, X', hpost, hstep₁ _ fun acts => by rw [doInvoke_state]; exact hsteps⟩
theorem vx_callSX (X : Stand p l e R s m args below meth c T locs cells slots) (hexec : p.tables.exec = Jvm.exec) {own : String} {index : Nat} {y : MethodName} {bytes : ByteArray} {maxL : Nat} {ret : Option FieldType} {hh : List (Nat × Nat × Nat × Nat)}
    (hown : s.vm.findClass own = some m.cls) (hlink : (Cond.methodLink own index y).before args s = true) (hstat : (Cond.static y).before args s = true) (hinit : (Cond.initialized y.cls).before args s = true)
    (hcode : (Cond.codeWith y bytes maxL ret hh).before args s = true) (hy : y.cls ≠ "java/lang/invoke/MethodHandle" ∧ y.cls ≠ "java/lang/invoke/VarHandle")
    {W9 : Nat} {Pre : Pt → Array Value → Prop} {Post : Pt → Array Value → Option Value → Pt → Prop} {PostX : Pt → Array Value → Addr → Pt → Prop} (hK : vx_Back l R p e below s args y 3 W9 Pre Post PostX)
    {g : JFrame} (hg : g.method = m) (hsize : g.locals.size = c.maxLocals) {argsL rest : List Value} (hlen : ∀ sig, parseMethodDescriptor y.desc = some sig → argsL.length = sig.parameters.length)
    (hstack : g.stack = argsL.reverse ++ rest) (hW : 2 * g.monitorRoom + (rest.map fun v => v.category).sum ≤ W9) (hdg : decode c.code g.pc = .ok (.invokestatic index, 3))
    (hpre : ∀ vm₁, s.WarmedH vm₁ → Pre ⟨T.setVm vm₁, locs, cells, slots⟩ argsL.toArray) :
    (∃ (v : Option Value) (vm₁ : Vm) (B : Pt), s.WarmedH vm₁ ∧ Stand p l e R s m args below meth c B.U B.locs B.cells B.slots ∧ Post ⟨T.setVm vm₁, locs, cells, slots⟩ argsL.toArray v B ∧
      ∀ target, Steps p.tables e below (B.U.setTop { g with pc := g.pc + 3, stack := v.toList ++ rest }) target → Steps p.tables e below (T.setTop g) target) ∨
    (∃ (q : Addr) (vm₁ : Vm) (B : Pt), s.WarmedH vm₁ ∧ Stand p l e R s m args below meth c B.U B.locs B.cells B.slots ∧ PostX ⟨T.setVm vm₁, locs, cells, slots⟩ argsL.toArray q B ∧
      Steps p.tables e below (T.setTop g) ((B.U.setTop { g with stack := rest }).pushFrame (.throwing q))) := by
  obtain ⟨mk, methM, cM, hnamed, hmethM, -, -, -, -, -, -, hsigM⟩ := Cond.codeWith_spec hcode
  have hstatic : methM.isStatic = true := Cond.static_spec hnamed hmethM hstat
  obtain ⟨kP, hkP, -⟩ := className_of_methodNamed hnamed
  have hinitP : kP.init = .initialized := Cond.initialized_spec (findClass_of_methodNamed hnamed) hkP hinit
  obtain ⟨vm₁, X₁, hstep₁⟩ := X.invokestatic hexec hown hlink hnamed hmethM hstatic hkP hinitP hy (g := g) hg (argsL := argsL) (rest := rest) (hlen _ hsigM) hstack hdg
  rcases hK m meth c ⟨T.setVm vm₁, locs, cells, slots⟩ { g with stack := rest } (.invokestatic index) mk argsL.toArray X₁ hg hsize hdg hW (X₁.named hnamed) (hpre vm₁ X₁.warmed) with ⟨v, B, X', hpost, hsteps⟩ | ⟨q, B, X', hpost, hsteps⟩
  · exact Or.inl ⟨v, vm₁, B, X₁.warmed, X', hpost, fun target h => hstep₁ _ fun acts => by rw [doInvoke_state]; exact hsteps.trans h⟩
  · exact Or.inr ⟨q, vm₁, B, X₁.warmed, X', hpost, hstep₁ _ fun acts => by rw [doInvoke_state]; exact hsteps⟩
theorem vx_callVW (X : Stand p l e R s m args below meth c T locs cells slots) (hexec : p.tables.exec = Jvm.exec) {own C : String} {index : Nat} {y : MethodName} {bytes : ByteArray} {maxL : Nat} {ret : Option FieldType} {hh : List (Nat × Nat × Nat × Nat)}
    (hown : s.vm.findClass own = some m.cls) (hlink : (Cond.methodLink own index y).before args s = true) (hinst : (Cond.instanceMethod y).before args s = true) (hsel : (Cond.selects C y y).before args s = true)
    (hcode : (Cond.codeWith y bytes maxL ret hh).before args s = true) (hy : y.cls ≠ "java/lang/invoke/MethodHandle" ∧ y.cls ≠ "java/lang/invoke/VarHandle")
    {W9 : Nat} {Pre : Pt → Array Value → Prop} {Post : Pt → Array Value → Option Value → Pt → Prop} (hK : Back l R p e below s args y 3 W9 Pre Post)
    {b : Addr} {cellB : Cell} (hcell : T.heap[b]? = some cellB) (hobj : cellB.vm.isStatics = false) (hcls : s.vm.findClass C = some cellB.cls)
    {g : JFrame} (hg : g.method = m) (hsize : g.locals.size = c.maxLocals) {argsL rest : List Value} (hlen : ∀ sig, parseMethodDescriptor y.desc = some sig → argsL.length = sig.parameters.length)
    (hstack : g.stack = argsL.reverse ++ .ref b :: rest) (hW : 2 * g.monitorRoom + (rest.map fun v => v.category).sum ≤ W9) (hdg : decode c.code g.pc = .ok (.invokevirtual index, 3))
    (hpre : ∀ vm₁, s.WarmedH vm₁ → Pre ⟨T.setVm vm₁, locs, cells, slots⟩ (Value.ref b :: argsL).toArray) :
    ∃ (v : Option Value) (vm₁ : Vm) (B : Pt), s.WarmedH vm₁ ∧ Stand p l e R s m args below meth c B.U B.locs B.cells B.slots ∧ Post ⟨T.setVm vm₁, locs, cells, slots⟩ (Value.ref b :: argsL).toArray v B ∧
      ∀ target, Steps p.tables e below (B.U.setTop { g with pc := g.pc + 3, stack := v.toList ++ rest }) target → Steps p.tables e below (T.setTop g) target := by
  obtain ⟨mk, methM, hnamed, hmethM, hstM, habM⟩ := Cond.instanceMethod_spec hinst
  obtain ⟨m8, methM', cM, hn8, hmethM', -, -, -, -, -, -, hsigM⟩ := Cond.codeWith_spec hcode
  cases Option.some.inj (hn8.symm.trans hnamed)
  cases hmethM.symm.trans hmethM'
  obtain ⟨c2, r2, m2, q1, q2, q3, q4, kP, hkP, hkPi⟩ := Cond.selects_spec hsel
  cases hcls.symm.trans q1
  cases (State.methodFound?_of_named hnamed hy).symm.trans q2
  cases hnamed.symm.trans q3
  have hselP : selectMethod e.platform s.vm cellB.cls mk = .method mk := by rw [Launch.admits_selectMethod X.admits]; exact q4
  obtain ⟨vm₁, X₁, hstep₁⟩ := X.invokevirtual hexec hown hlink hnamed hmethM hstM hkP hkPi hy (a := b) (cell := cellB) hcell
    (fun z h => by rw [h] at hobj; cases hobj) hselP hmethM habM hkP hkPi (g := g) hg (argsL := argsL) (rest := rest) (hlen _ hsigM) hstack hdg
  obtain ⟨v, B, X', hpost, hsteps⟩ := hK m meth c ⟨T.setVm vm₁, locs, cells, slots⟩ { g with stack := rest } (.invokevirtual index) mk (Value.ref b :: argsL).toArray X₁ hg hsize hdg hW (X₁.named hnamed) (hpre vm₁ X₁.warmed)
  exact ⟨v, vm₁, B, X₁.warmed, X', hpost, fun target h => hstep₁ _ fun acts => by rw [doInvoke_state]; exact hsteps.trans h⟩
abbrev vx_CVW (R : Room) (s : State) (args : Array Value) (own C : String) (index : Nat) (y : MethodName) (bytes : ByteArray) (maxL : Nat) (ret : Option FieldType) (hh : List (Nat × Nat × Nat × Nat)) (ws : List Cond) (rm : Room) (mc ms n : Nat) : Prop :=
  (rm.cells = mc ∧ rm.slots = ms ∧ rm.frames + 1 ≤ R.frames ∧ 8 + (maxL + 11) + rm.locals ≤ R.locals ∧ (∀ w ∈ ws, ∀ (a' : Array Value) (U : State), s.WarmedH U.vm → w.before a' U = true) ∧ Cond.codeWith y bytes maxL ret hh ∈ ws) ∧
  (Cond.codeWith y bytes maxL ret hh).before args s = true ∧ (Cond.initialized y.cls).before args s = true ∧ (y.cls ≠ "java/lang/invoke/MethodHandle" ∧ y.cls ≠ "java/lang/invoke/VarHandle") ∧
  (∀ sig, parseMethodDescriptor y.desc = some sig → n = sig.parameters.length) ∧ (Cond.methodLink own index y).before args s = true ∧ (Cond.instanceMethod y).before args s = true ∧ (Cond.selects C y y).before args s = true
theorem vx_cwVW {own C : String} {index maxL mc ms : Nat} {y : MethodName} {bytes : ByteArray} {ret : Option FieldType} {hh : List (Nat × Nat × Nat × Nat)} {Ts ws ws' : List Cond} {rm : Room} (n : Nat) (ht : ∀ w ∈ Ts, w.before args s = true) (hT : GoodIn Ts (wsV own index C y ws)) (hw : ws = Cond.codeWith y bytes maxL ret hh :: ws') (hrc : rm.cells = mc) (hrs : rm.slots = ms)
    (hd : y.cls = C ∧ y.cls ≠ "java/lang/invoke/MethodHandle" ∧ y.cls ≠ "java/lang/invoke/VarHandle" ∧ (parseMethodDescriptor y.desc).map (fun d => d.parameters.length) = some n) (hR : rm.frames + 1 ≤ R.frames ∧ 8 + (maxL + 11) + rm.locals ≤ R.locals) :
    vx_CVW R s args own C index y bytes maxL ret hh ws rm mc ms n := by
  obtain ⟨hC, hd⟩ := hd
  subst hC
  have ok : ∀ w ∈ wsV own index y.cls y ws, w.before args s = true := fun w h => ht w (hT w h).1
  have hG : GoodIn Ts ws := fun w h => hT w (by unfold wsV; exact List.mem_append_right _ h)
  have hc : Cond.codeWith y bytes maxL ret hh ∈ ws := by rw [hw]; exact List.mem_cons_self
  refine ⟨⟨hrc, hrs, hR.1, hR.2, pay_in ht hG, hc⟩, ht _ (hG _ hc).1, ok _ (by simp [wsV]), ⟨hd.1, hd.2.1⟩, fun sig h => ?_, ok _ (by simp [wsV]), ok _ (by simp [wsV]), ok _ (by simp [wsV])⟩
  have h2 := hd.2.2
  rw [h] at h2
  exact (Option.some.inj h2).symm
theorem vx_runVW {y : MethodName} {bytes cc : ByteArray} {maxL nL mc ms n index : Nat} {ret : Option FieldType} {hh : List (Nat × Nat × Nat × Nat)} {ws : List Cond} {rm : Room} {Pc : Array Value → State → Prop} {Qc : Array Value → State → Outcome → State → Prop} {free : Addr → Prop} {Ts : List Cond} {own C : String} {b : Addr} {As rest : List Value} {g : JFrame}
    (S : CallFix p m c cc nL s args Ts own) (hM : Met l y ws rm Pc Qc mc ms free) (cw : vx_CVW R s args own C index y bytes maxL ret hh ws rm mc ms n) (hp : PreV s H C b Pc As)
    (hg : g.method = m) (hn : As.length = n) (hsize : g.locals.size = nL) (hstack : g.stack = As.reverse ++ .ref b :: rest) (hW : 2 * g.monitorRoom + (rest.map fun v => v.category).sum ≤ 8) (hdg : decode cc g.pc = .ok (.invokevirtual index, 3)) (hf : cells + mc ≤ R.cells ∧ slots + ms ≤ R.slots) :
    va_Run p l e R s m args below meth c H locs cells slots mc ms g rest (Qc (Value.ref b :: As).toArray) free := by
  obtain ⟨⟨hrc, hrs, hfr, hlo, hws, hcw⟩, hcode, hini, hy, hlen, hl, hin, hse⟩ := cw
  have hK : Back l R p e below s args y 3 8 (PreOf R mc ms Pc) (PostOf Qc mc ms free) := va_backW (hh := hh) (bytes := bytes) (maxL := maxL) (ret := ret) hM hp.1 hrc hrs hfr hlo hws hcw (fun a' U hW => word_at hW (Or.inl (by first | rfl | simp [Cond.onTables, Cond.keeps, Cond.steady])) hini)
  obtain ⟨hx, hb, hml, ho, -⟩ := S
  obtain ⟨-, ⟨cellB, hcB, hoB, hclB⟩, hPc⟩ := hp
  intro T hT X
  obtain ⟨v, vm₁, ⟨U', l2, c2, s2⟩, hW₁, X', ⟨g', mk, t, L, e1, e2, hq, h1, hL, h2, h3⟩, st⟩ := vx_callVW X hx (C := C) (hh := hh) (bytes := bytes) (maxL := maxL) (ret := ret) ho hl hin hse hcode hy hK (by rw [hT]; exact hcB) hoB hclB hg (hsize.trans hml.symm) (argsL := As) (rest := rest) (fun sig h => hn.trans (hlen sig h)) hstack hW (by rw [hb]; exact hdg)
    (fun vm₁ hW₁ => ⟨hf.1, hf.2, hPc (T.setVm vm₁) hT hW₁⟩)
  dsimp only [Pt.U, Pt.locs, Pt.cells, Pt.slots] at X' e1 e2 h1 h2 h3 st
  subst h1; subst h2; subst h3
  exact ⟨v, (T.setVm vm₁).calling g' mk (Value.ref b :: As).toArray, t, U', L, hT, X', hL, e1, e2, hq, st⟩
section
variable {y : MethodName} {bytes cc : ByteArray} {maxL nL mc ms n index : Nat} {ret : Option FieldType} {ws : List Cond} {rm : Room} {Pc : Array Value → State → Prop} {Qc : Array Value → State → Outcome → State → Prop} {XC : String → State → State → Prop} {free : Addr → Prop} {Ts : List Cond} {own C : String} {b : Addr} {As rest : List Value} {g : JFrame}
theorem vx_runVX {hh : List (Nat × Nat × Nat × Nat)} (S : CallFix p m c cc nL s args Ts own) (hM : vx_Met l y ws rm Pc Qc XC mc ms free) (cw : vx_CVW R s args own C index y bytes maxL ret hh ws rm mc ms n) (hp : PreV s H C b Pc As)
    (hg : g.method = m) (hn : As.length = n) (hsize : g.locals.size = nL) (hstack : g.stack = As.reverse ++ .ref b :: rest) (hW : 2 * g.monitorRoom + (rest.map fun v => v.category).sum ≤ 8) (hdg : decode cc g.pc = .ok (.invokevirtual index, 3)) (hf : cells + mc ≤ R.cells ∧ slots + ms ≤ R.slots) :
    vx_Run p l e R s m args below meth c H locs cells slots mc ms g rest (Qc (Value.ref b :: As).toArray) XC free := by
  obtain ⟨⟨hrc, hrs, hfr, hlo, hws, hcw⟩, hcode, hini, hy, hlen, hl, hin, hse⟩ := cw
  have hK : vx_Back l R p e below s args y 3 8 (PreOf R mc ms Pc) (PostOf Qc mc ms free) (vx_Post XC mc ms free) := vx_backW (hh := hh) (bytes := bytes) (maxL := maxL) (ret := ret) hM hp.1 hrc hrs hfr hlo hws hcw (fun a' U hW => word_at hW (Or.inl (by first | rfl | simp [Cond.onTables, Cond.keeps, Cond.steady])) hini)
  obtain ⟨hx, hb, hml, ho, -⟩ := S
  obtain ⟨-, ⟨cellB, hcB, hoB, hclB⟩, hPc⟩ := hp
  intro T hT X
  rcases vx_callVX X hx (C := C) (hh := hh) (bytes := bytes) (maxL := maxL) (ret := ret) ho hl hin hse hcode hy hK (by rw [hT]; exact hcB) hoB hclB hg (hsize.trans hml.symm) (argsL := As) (rest := rest) (fun sig h => hn.trans (hlen sig h)) hstack hW (by rw [hb]; exact hdg)
    (fun vm₁ hW₁ => ⟨hf.1, hf.2, hPc (T.setVm vm₁) hT hW₁⟩) with ⟨v, vm₁, ⟨U', l2, c2, s2⟩, hW₁, X', ⟨g', mk, t, L, e1, e2, hq, h1, hL, h2, h3⟩, st⟩ | ⟨q, vm₁, ⟨U', l2, c2, s2⟩, hW₁, X', ⟨g', mk, t, L, E, ce, e1, e2, hq, hce, hcv, hcl, h1, hL, h2, h3⟩, st⟩
  · dsimp only [Pt.U, Pt.locs, Pt.cells, Pt.slots] at X' e1 e2 h1 h2 h3 st
    subst h1; subst h2; subst h3
    exact Or.inl ⟨v, (T.setVm vm₁).calling g' mk (Value.ref b :: As).toArray, t, U', L, hT, X', hL, e1, e2, hq, st⟩
  · dsimp only [Pt.U, Pt.locs, Pt.cells, Pt.slots] at X' e1 e2 h1 h2 h3 st hcl
    subst h1; subst h2; subst h3
    exact Or.inr ⟨q, (T.setVm vm₁).calling g' mk (Value.ref b :: As).toArray, t, U', L, E, ce, hT, X', hL, e1, e2, hq, hce, hcv, vx_cls hW₁ hcl, st⟩
theorem vx_runSX {hh : List (Nat × Nat × Nat × Nat)} (S : CallFix p m c cc nL s args Ts own) (hM : vx_Met l y ws rm Pc Qc XC mc ms free) (cw : vx_CSW R s args own index y bytes maxL ret hh ws rm mc ms n) (hp : PreS s H Pc As)
    (hg : g.method = m) (hn : As.length = n) (hsize : g.locals.size = nL) (hstack : g.stack = As.reverse ++ rest) (hW : 2 * g.monitorRoom + (rest.map fun v => v.category).sum ≤ 8) (hdg : decode cc g.pc = .ok (.invokestatic index, 3)) (hf : cells + mc ≤ R.cells ∧ slots + ms ≤ R.slots) :
    vx_Run p l e R s m args below meth c H locs cells slots mc ms g rest (Qc As.toArray) XC free := by
  obtain ⟨⟨hrc, hrs, hfr, hlo, hws, hcw⟩, hcode, hini, hy, hlen, hl, hstt⟩ := cw
  have hK : vx_Back l R p e below s args y 3 8 (PreOf R mc ms Pc) (PostOf Qc mc ms free) (vx_Post XC mc ms free) := vx_backW (hh := hh) (bytes := bytes) (maxL := maxL) (ret := ret) hM hp.1 hrc hrs hfr hlo hws hcw (fun a' U hW => word_at hW (Or.inl (by first | rfl | simp [Cond.onTables, Cond.keeps, Cond.steady])) hini)
  obtain ⟨hx, hb, hml, ho, -⟩ := S
  intro T hT X
  rcases vx_callSX X hx (hh := hh) (bytes := bytes) (maxL := maxL) (ret := ret) ho hl hstt hini hcode hy hK hg (hsize.trans hml.symm) (argsL := As) (rest := rest) (fun sig h => hn.trans (hlen sig h)) hstack hW (by rw [hb]; exact hdg)
    (fun vm₁ hW₁ => ⟨hf.1, hf.2, hp.2 (T.setVm vm₁) hT hW₁⟩) with ⟨v, vm₁, ⟨U', l2, c2, s2⟩, hW₁, X', ⟨g', mk, t, L, e1, e2, hq, h1, hL, h2, h3⟩, st⟩ | ⟨q, vm₁, ⟨U', l2, c2, s2⟩, hW₁, X', ⟨g', mk, t, L, E, ce, e1, e2, hq, hce, hcv, hcl, h1, hL, h2, h3⟩, st⟩
  · dsimp only [Pt.U, Pt.locs, Pt.cells, Pt.slots] at X' e1 e2 h1 h2 h3 st
    subst h1; subst h2; subst h3
    exact Or.inl ⟨v, (T.setVm vm₁).calling g' mk As.toArray, t, U', L, hT, X', hL, e1, e2, hq, st⟩
  · dsimp only [Pt.U, Pt.locs, Pt.cells, Pt.slots] at X' e1 e2 h1 h2 h3 st hcl
    subst h1; subst h2; subst h3
    exact Or.inr ⟨q, (T.setVm vm₁).calling g' mk As.toArray, t, U', L, E, ce, hT, X', hL, e1, e2, hq, hce, hcv, vx_cls hW₁ hcl, st⟩
end
end VXH
theorem vx_ofWH {l : Launch} {y : MethodName} {ws ws' : List Cond} {rm : Room} {Pc : Array Value → State → Prop} {Qc : Array Value → State → Outcome → State → Prop} {XC : String → State → State → Prop} {mc ms : Nat} {free : Addr → Prop} {cc : ByteArray} {maxL : Nat} {ret : Option FieldType} {hh : List (Nat × Nat × Nat × Nat)}
    (hy : plainName y.cls = true) (hw : ws = Cond.codeWith y cc maxL ret hh :: ws')
    (body : ∀ p e s m args below meth c s₁, BodyLoose p l y (headSpec ws rm) cc maxL ret e s m args below meth c s₁ → c.maxLocals = maxL → Pc args s →
      W p l e (headSpec ws rm).room s m args below meth c s.heap [] 0 0 (vx_MQ below Qc XC args s mc ms free) (entryFrame m args maxL)) : vx_Met l y ws rm Pc Qc XC mc ms free := by
  refine MetFree.of_bodyS (code := cc) (maxLocals := maxL) (ret := ret) hy ?_ ?_
  · intro args s m h hn
    obtain ⟨m9, meth, c, hn9, h1, h2, h3, h4, -, h5, h6, -⟩ := Cond.codeWith_spec (atoms_spec (ws := ws) h _ (by rw [hw]; exact List.mem_cons_self))
    cases hn.symm.trans hn9
    exact ⟨meth, c, h1, h2, h3, h4, h5, h6⟩
  · intro p e s m args below meth c s₁ B hml hP _
    have hh0 : s₁.heap = s.heap := by rw [B.state]; rfl
    obtain ⟨t, a1, o, b1, b2, b3⟩ := body p e s m args below meth c s₁ B hml hP s₁ hh0 (Stand.of_body B)
    exact ⟨t, o, a1, b1, b2, b3⟩
/-! ===== END ===== -/

def RX0 : String := "Farfiles$Act"
def TX0 : u_T := fun k => match k with
  | 0 => ("Farfiles$Act", "client", "I", true)
  | 1 => ("Farfiles$Act", "object", "I", true)
  | 2 => ("Farfiles$Act", "kind", "C", true)
  | 3 => ("Farfiles$Act", "name", "I", true)
  | 4 => ("Farfiles$Act", "target", "I", true)
  | 5 => ("Farfiles$Act", "text", "[C", true)
  | 6 => ("Farfiles$Act", "seen", "LFarfiles$ActSet;", true)
  | _ => ("Farfiles$Act", "taken", "LFarfiles$ActSet;", true)
def tyX0 : Nat → FieldType := fun k => match k with
  | 0 => .int
  | 1 => .int
  | 2 => .char
  | 3 => .int
  | 4 => .int
  | 5 => .array .char
  | 6 => .object "Farfiles$ActSet"
  | _ => .object "Farfiles$ActSet"
abbrev wsX00 : List Cond := u_ws RX0 TX0 8
theorem nmX0 : ∀ a, a < 8 → ∀ b, b < 8 → a ≠ b → (TX0 a).2.1 ≠ (TX0 b).2.1 := by decide +kernel
theorem tyX0_ok : ∀ k, k < 8 → parseFieldDescriptor (TX0 k).2.2.1 = some (tyX0 k) := by decide +kernel
abbrev cX0_init : ByteArray := prog_2_method_1_code
def yX0_init : MethodName := ⟨RX0, "<init>", "(IICII[C)V"⟩
abbrev cX0_isAddLike : ByteArray := prog_2_method_2_code
def yX0_isAddLike : MethodName := ⟨RX0, "isAddLike", "(LFarfiles$Act;)Z"⟩
def RX1 : String := "Farfiles$ActSet"
def TX1 : u_T := fun k => match k with
  | _ => ("Farfiles$ActSet", "words", "[J", true)
def tyX1 : Nat → FieldType := fun k => match k with
  | _ => .array .long
abbrev wsX10 : List Cond := u_ws RX1 TX1 1
theorem nmX1 : ∀ a, a < 1 → ∀ b, b < 1 → a ≠ b → (TX1 a).2.1 ≠ (TX1 b).2.1 := by decide +kernel
theorem tyX1_ok : ∀ k, k < 1 → parseFieldDescriptor (TX1 k).2.2.1 = some (tyX1 k) := by decide +kernel
abbrev cX1_init : ByteArray := prog_3_method_1_code
def yX1_init : MethodName := ⟨RX1, "<init>", "()V"⟩
abbrev cX1_has : ByteArray := prog_3_method_2_code
def yX1_has : MethodName := ⟨RX1, "has", "(I)Z"⟩
abbrev cX1_put : ByteArray := prog_3_method_3_code
def yX1_put : MethodName := ⟨RX1, "put", "(I)V"⟩
abbrev cX1_takeOut : ByteArray := prog_3_method_4_code
def yX1_takeOut : MethodName := ⟨RX1, "takeOut", "(I)V"⟩
abbrev cX1_empty : ByteArray := prog_3_method_5_code
def yX1_empty : MethodName := ⟨RX1, "empty", "()V"⟩
abbrev cX1_putAll : ByteArray := prog_3_method_6_code
def yX1_putAll : MethodName := ⟨RX1, "putAll", "(LFarfiles$ActSet;)V"⟩
abbrev cX1_takeOutAll : ByteArray := prog_3_method_7_code
def yX1_takeOutAll : MethodName := ⟨RX1, "takeOutAll", "(LFarfiles$ActSet;)V"⟩
abbrev cX1_size : ByteArray := prog_3_method_8_code
def yX1_size : MethodName := ⟨RX1, "size", "()I"⟩
abbrev cX1_countUnlike : ByteArray := prog_3_method_9_code
def yX1_countUnlike : MethodName := ⟨RX1, "countUnlike", "(LFarfiles$ActSet;)I"⟩
def RX2 : String := "Farfiles$Answers"
def TX2 : u_T := fun k => match k with
  | 0 => ("Farfiles$Answers", "stores", "[LFarfiles$Act;", true)
  | 1 => ("Farfiles$Answers", "names", "[I", true)
  | 2 => ("Farfiles$Answers", "objects", "[I", true)
  | _ => ("Farfiles$Answers", "count", "I", false)
def tyX2 : Nat → FieldType := fun k => match k with
  | 0 => .array (.object "Farfiles$Act")
  | 1 => .array .int
  | 2 => .array .int
  | _ => .int
abbrev wsX20 : List Cond := u_ws RX2 TX2 4
theorem nmX2 : ∀ a, a < 4 → ∀ b, b < 4 → a ≠ b → (TX2 a).2.1 ≠ (TX2 b).2.1 := by decide +kernel
theorem tyX2_ok : ∀ k, k < 4 → parseFieldDescriptor (TX2 k).2.2.1 = some (tyX2 k) := by decide +kernel
abbrev cX2_init : ByteArray := prog_4_method_1_code
def yX2_init : MethodName := ⟨RX2, "<init>", "()V"⟩
abbrev cX2_empty : ByteArray := prog_4_method_2_code
def yX2_empty : MethodName := ⟨RX2, "empty", "()V"⟩
abbrev cX2_putText : ByteArray := prog_4_method_3_code
def yX2_putText : MethodName := ⟨RX2, "putText", "(LFarfiles$Act;)V"⟩
abbrev cX2_putEntry : ByteArray := prog_4_method_4_code
def yX2_putEntry : MethodName := ⟨RX2, "putEntry", "(II)V"⟩
abbrev cX2_putBehind : ByteArray := prog_4_method_5_code
def yX2_putBehind : MethodName := ⟨RX2, "putBehind", "(II)V"⟩
abbrev cX2_putAt : ByteArray := prog_4_method_6_code
def yX2_putAt : MethodName := ⟨RX2, "putAt", "(ILFarfiles$Act;II)V"⟩
abbrev cX2_hasPlace : ByteArray := prog_4_method_7_code
def yX2_hasPlace : MethodName := ⟨RX2, "hasPlace", "(I)Z"⟩
abbrev cX2_textAt : ByteArray := prog_4_method_8_code
def yX2_textAt : MethodName := ⟨RX2, "textAt", "(I)[C"⟩
abbrev cX2_nameAt : ByteArray := prog_4_method_9_code
def yX2_nameAt : MethodName := ⟨RX2, "nameAt", "(I)I"⟩
abbrev cX2_objectAt : ByteArray := prog_4_method_10_code
def yX2_objectAt : MethodName := ⟨RX2, "objectAt", "(I)I"⟩
def RX3 : String := "Farfiles$Client"
def TX3 : u_T := fun k => match k with
  | 0 => ("Farfiles$Client", "number", "I", true)
  | 1 => ("Farfiles$Client", "isUp", "[Z", true)
  | 2 => ("Farfiles$Client", "isHeld", "[Z", true)
  | 3 => ("Farfiles$Client", "ranks", "[I", true)
  | 4 => ("Farfiles$Client", "lookTimes", "[I", true)
  | 5 => ("Farfiles$Client", "known", "LFarfiles$ActSet;", true)
  | 6 => ("Farfiles$Client", "waiting", "LFarfiles$ActSet;", true)
  | 7 => ("Farfiles$Client", "heldCount", "I", false)
  | 8 => ("Farfiles$Client", "looks", "I", false)
  | 9 => ("Farfiles$Client", "looksAhead", "I", false)
  | 10 => ("Farfiles$Client", "made", "I", false)
  | _ => ("Farfiles$Client", "isThrough", "Z", false)
def tyX3 : Nat → FieldType := fun k => match k with
  | 0 => .int
  | 1 => .array .boolean
  | 2 => .array .boolean
  | 3 => .array .int
  | 4 => .array .int
  | 5 => .object "Farfiles$ActSet"
  | 6 => .object "Farfiles$ActSet"
  | 7 => .int
  | 8 => .int
  | 9 => .int
  | 10 => .int
  | _ => .boolean
abbrev wsX30 : List Cond := u_ws RX3 TX3 12
theorem nmX3 : ∀ a, a < 12 → ∀ b, b < 12 → a ≠ b → (TX3 a).2.1 ≠ (TX3 b).2.1 := by decide +kernel
theorem tyX3_ok : ∀ k, k < 12 → parseFieldDescriptor (TX3 k).2.2.1 = some (tyX3 k) := by decide +kernel
abbrev cX3_init : ByteArray := prog_5_method_1_code
def yX3_init : MethodName := ⟨RX3, "<init>", "(I)V"⟩
abbrev cX3_nearBits : ByteArray := prog_5_method_2_code
def yX3_nearBits : MethodName := ⟨RX3, "nearBits", "()I"⟩
abbrev cX3_isNear : ByteArray := prog_5_method_3_code
def yX3_isNear : MethodName := ⟨RX3, "isNear", "(I)Z"⟩
abbrev cX3_hasHold : ByteArray := prog_5_method_4_code
def yX3_hasHold : MethodName := ⟨RX3, "hasHold", "(I)Z"⟩
abbrev cX3_startCall : ByteArray := prog_5_method_5_code
def yX3_startCall : MethodName := ⟨RX3, "startCall", "()V"⟩
abbrev cX3_hasWaiting : ByteArray := prog_5_method_6_code
def yX3_hasWaiting : MethodName := ⟨RX3, "hasWaiting", "(LFarfiles$Log;I)Z"⟩
abbrev cX3_hasRoom : ByteArray := prog_5_method_7_code
def yX3_hasRoom : MethodName := ⟨RX3, "hasRoom", "(LFarfiles$Log;)Z"⟩
abbrev cX3_firstToGo : ByteArray := prog_5_method_8_code
def yX3_firstToGo : MethodName := ⟨RX3, "firstToGo", "(LFarfiles$Log;)I"⟩
abbrev cX3_goesAhead : ByteArray := prog_5_method_9_code
def yX3_goesAhead : MethodName := ⟨RX3, "goesAhead", "(II)Z"⟩
abbrev cX3_takeUp : ByteArray := prog_5_method_10_code
def yX3_takeUp : MethodName := ⟨RX3, "takeUp", "(LFarfiles$Log;I)V"⟩
abbrev cX3_letGo : ByteArray := prog_5_method_11_code
def yX3_letGo : MethodName := ⟨RX3, "letGo", "(LFarfiles$Log;I)V"⟩
abbrev cX3_learn : ByteArray := prog_5_method_12_code
def yX3_learn : MethodName := ⟨RX3, "learn", "(LFarfiles$Log;LFarfiles$ActSet;I)V"⟩
def RX4 : String := "Farfiles$Line"
def TX4 : u_T := fun k => match k with
  | 0 => ("Farfiles$Line", "signs", "[C", true)
  | _ => ("Farfiles$Line", "count", "I", false)
def tyX4 : Nat → FieldType := fun k => match k with
  | 0 => .array .char
  | _ => .int
abbrev wsX40 : List Cond := u_ws RX4 TX4 2
theorem nmX4 : ∀ a, a < 2 → ∀ b, b < 2 → a ≠ b → (TX4 a).2.1 ≠ (TX4 b).2.1 := by decide +kernel
theorem tyX4_ok : ∀ k, k < 2 → parseFieldDescriptor (TX4 k).2.2.1 = some (tyX4 k) := by decide +kernel
abbrev cX4_init : ByteArray := prog_6_method_1_code
def yX4_init : MethodName := ⟨RX4, "<init>", "()V"⟩
abbrev cX4_at : ByteArray := prog_6_method_2_code
def yX4_at : MethodName := ⟨RX4, "at", "(I)C"⟩
abbrev cX4_put : ByteArray := prog_6_method_3_code
def yX4_put : MethodName := ⟨RX4, "put", "(C)V"⟩
abbrev cX4_empty : ByteArray := prog_6_method_4_code
def yX4_empty : MethodName := ⟨RX4, "empty", "()V"⟩
abbrev cX4_copyFrom : ByteArray := prog_6_method_5_code
def yX4_copyFrom : MethodName := ⟨RX4, "copyFrom", "(I)[C"⟩
abbrev cX4_isLetter : ByteArray := prog_6_method_6_code
def yX4_isLetter : MethodName := ⟨RX4, "isLetter", "(I)Z"⟩
abbrev cX4_isDigit : ByteArray := prog_6_method_7_code
def yX4_isDigit : MethodName := ⟨RX4, "isDigit", "(I)Z"⟩
def RX5 : String := "Farfiles$Log"
def TX5 : u_T := fun k => match k with
  | 0 => ("Farfiles$Log", "row", "[LFarfiles$Act;", true)
  | 1 => ("Farfiles$Log", "none", "LFarfiles$Act;", true)
  | 2 => ("Farfiles$Log", "told", "LFarfiles$ActSet;", true)
  | 3 => ("Farfiles$Log", "gone", "LFarfiles$ActSet;", true)
  | _ => ("Farfiles$Log", "count", "I", false)
def tyX5 : Nat → FieldType := fun k => match k with
  | 0 => .array (.object "Farfiles$Act")
  | 1 => .object "Farfiles$Act"
  | 2 => .object "Farfiles$ActSet"
  | 3 => .object "Farfiles$ActSet"
  | _ => .int
abbrev wsX50 : List Cond := u_ws RX5 TX5 5
theorem nmX5 : ∀ a, a < 5 → ∀ b, b < 5 → a ≠ b → (TX5 a).2.1 ≠ (TX5 b).2.1 := by decide +kernel
theorem tyX5_ok : ∀ k, k < 5 → parseFieldDescriptor (TX5 k).2.2.1 = some (tyX5 k) := by decide +kernel
abbrev cX5_init : ByteArray := prog_7_method_1_code
def yX5_init : MethodName := ⟨RX5, "<init>", "()V"⟩
abbrev cX5_at : ByteArray := prog_7_method_2_code
def yX5_at : MethodName := ⟨RX5, "at", "(I)LFarfiles$Act;"⟩
abbrev cX5_hasRoomFor : ByteArray := prog_7_method_3_code
def yX5_hasRoomFor : MethodName := ⟨RX5, "hasRoomFor", "(I)Z"⟩
abbrev cX5_put : ByteArray := prog_7_method_4_code
def yX5_put : MethodName := ⟨RX5, "put", "(LFarfiles$Act;)I"⟩
abbrev cX5_gather : ByteArray := prog_7_method_5_code
def yX5_gather : MethodName := ⟨RX5, "gather", "(LFarfiles$ActSet;I)V"⟩
abbrev cX5_toldName : ByteArray := prog_7_method_6_code
def yX5_toldName : MethodName := ⟨RX5, "toldName", "(LFarfiles$Act;)I"⟩
abbrev cX5_entryOf : ByteArray := prog_7_method_7_code
def yX5_entryOf : MethodName := ⟨RX5, "entryOf", "(LFarfiles$ActSet;II)I"⟩
abbrev cX5_hasEntries : ByteArray := prog_7_method_8_code
def yX5_hasEntries : MethodName := ⟨RX5, "hasEntries", "(LFarfiles$ActSet;I)Z"⟩
abbrev cX5_tellFile : ByteArray := prog_7_method_9_code
def yX5_tellFile : MethodName := ⟨RX5, "tellFile", "(LFarfiles$ActSet;ILFarfiles$Answers;)V"⟩
abbrev cX5_tellDirectory : ByteArray := prog_7_method_10_code
def yX5_tellDirectory : MethodName := ⟨RX5, "tellDirectory", "(LFarfiles$ActSet;ILFarfiles$Answers;)V"⟩
abbrev cX5_takeAway : ByteArray := prog_7_method_11_code
def yX5_takeAway : MethodName := ⟨RX5, "takeAway", "(LFarfiles$ActSet;LFarfiles$Act;)V"⟩
abbrev cX5_takeAddsLike : ByteArray := prog_7_method_12_code
def yX5_takeAddsLike : MethodName := ⟨RX5, "takeAddsLike", "(LFarfiles$Act;LFarfiles$Act;)V"⟩
abbrev cX5_hasUnseenStore : ByteArray := prog_7_method_13_code
def yX5_hasUnseenStore : MethodName := ⟨RX5, "hasUnseenStore", "(LFarfiles$ActSet;I)Z"⟩
abbrev cX5_markEntries : ByteArray := prog_7_method_14_code
def yX5_markEntries : MethodName := ⟨RX5, "markEntries", "(LFarfiles$ActSet;I[Z)V"⟩
def RX6 : String := "Farfiles$Path"
def TX6 : u_T := fun k => match k with
  | 0 => ("Farfiles$Path", "names", "[I", true)
  | 1 => ("Farfiles$Path", "places", "[I", true)
  | 2 => ("Farfiles$Path", "way", "[I", true)
  | 3 => ("Farfiles$Path", "count", "I", false)
  | _ => ("Farfiles$Path", "looked", "I", false)
def tyX6 : Nat → FieldType := fun k => match k with
  | 0 => .array .int
  | 1 => .array .int
  | 2 => .array .int
  | 3 => .int
  | _ => .int
abbrev wsX60 : List Cond := u_ws RX6 TX6 5
theorem nmX6 : ∀ a, a < 5 → ∀ b, b < 5 → a ≠ b → (TX6 a).2.1 ≠ (TX6 b).2.1 := by decide +kernel
theorem tyX6_ok : ∀ k, k < 5 → parseFieldDescriptor (TX6 k).2.2.1 = some (tyX6 k) := by decide +kernel
abbrev cX6_init : ByteArray := prog_8_method_1_code
def yX6_init : MethodName := ⟨RX6, "<init>", "()V"⟩
abbrev cX6_readFrom : ByteArray := prog_8_method_2_code
def yX6_readFrom : MethodName := ⟨RX6, "readFrom", "(LFarfiles$Line;IC)I"⟩
abbrev cX6_isEnd : ByteArray := prog_8_method_3_code
def yX6_isEnd : MethodName := ⟨RX6, "isEnd", "(LFarfiles$Line;IC)Z"⟩
abbrev cX6_endOfName : ByteArray := prog_8_method_4_code
def yX6_endOfName : MethodName := ⟨RX6, "endOfName", "(LFarfiles$Line;I)I"⟩
abbrev cX6_nameBetween : ByteArray := prog_8_method_5_code
def yX6_nameBetween : MethodName := ⟨RX6, "nameBetween", "(LFarfiles$Line;II)I"⟩
abbrev cX6_faultOfLastName : ByteArray := prog_8_method_6_code
def yX6_faultOfLastName : MethodName := ⟨RX6, "faultOfLastName", "()I"⟩
abbrev cX6_nameAt : ByteArray := prog_8_method_7_code
def yX6_nameAt : MethodName := ⟨RX6, "nameAt", "(I)I"⟩
abbrev cX6_lastName : ByteArray := prog_8_method_8_code
def yX6_lastName : MethodName := ⟨RX6, "lastName", "()I"⟩
abbrev cX6_lookedAt : ByteArray := prog_8_method_9_code
def yX6_lookedAt : MethodName := ⟨RX6, "lookedAt", "(I)V"⟩
abbrev cX6_hasOnWay : ByteArray := prog_8_method_10_code
def yX6_hasOnWay : MethodName := ⟨RX6, "hasOnWay", "(I)Z"⟩
def RX7 : String := "Farfiles"
def TX7 : u_T := fun k => match k with
  | 0 => ("Farfiles", "text", "LFarfiles$Line;", true)
  | 1 => ("Farfiles", "log", "LFarfiles$Log;", true)
  | 2 => ("Farfiles", "told", "LFarfiles$Answers;", true)
  | 3 => ("Farfiles", "clients", "[LFarfiles$Client;", true)
  | 4 => ("Farfiles", "servers", "[LFarfiles$ActSet;", true)
  | 5 => ("Farfiles", "isWireUp", "[Z", true)
  | 6 => ("Farfiles", "isMade", "[Z", true)
  | 7 => ("Farfiles", "isDirectory", "[Z", true)
  | 8 => ("Farfiles", "first", "LFarfiles$Path;", true)
  | 9 => ("Farfiles", "second", "LFarfiles$Path;", true)
  | 10 => ("Farfiles", "earlyActs", "LFarfiles$ActSet;", true)
  | 11 => ("Farfiles", "isOnWay", "[Z", true)
  | 12 => ("Farfiles", "isGoneBy", "[Z", true)
  | 13 => ("Farfiles", "isLost", "[Z", true)
  | 14 => ("Farfiles", "isLostToo", "[Z", true)
  | _ => ("Farfiles", "why", "C", false)
def tyX7 : Nat → FieldType := fun k => match k with
  | 0 => .object "Farfiles$Line"
  | 1 => .object "Farfiles$Log"
  | 2 => .object "Farfiles$Answers"
  | 3 => .array (.object "Farfiles$Client")
  | 4 => .array (.object "Farfiles$ActSet")
  | 5 => .array .boolean
  | 6 => .array .boolean
  | 7 => .array .boolean
  | 8 => .object "Farfiles$Path"
  | 9 => .object "Farfiles$Path"
  | 10 => .object "Farfiles$ActSet"
  | 11 => .array .boolean
  | 12 => .array .boolean
  | 13 => .array .boolean
  | 14 => .array .boolean
  | _ => .char
abbrev wsX70 : List Cond := u_ws RX7 TX7 16
theorem nmX7 : ∀ a, a < 16 → ∀ b, b < 16 → a ≠ b → (TX7 a).2.1 ≠ (TX7 b).2.1 := by decide +kernel
theorem tyX7_ok : ∀ k, k < 16 → parseFieldDescriptor (TX7 k).2.2.1 = some (tyX7 k) := by decide +kernel
abbrev cX7_init : ByteArray := prog_1_method_1_code
def yX7_init : MethodName := ⟨RX7, "<init>", "()V"⟩
abbrev cX7_packed : ByteArray := prog_1_method_2_code
def yX7_packed : MethodName := ⟨RX7, "packed", "(CCC)I"⟩
abbrev cX7_nameOfNumber : ByteArray := prog_1_method_3_code
def yX7_nameOfNumber : MethodName := ⟨RX7, "nameOfNumber", "(I)I"⟩
abbrev cX7_signOfName : ByteArray := prog_1_method_4_code
def yX7_signOfName : MethodName := ⟨RX7, "signOfName", "(II)C"⟩
abbrev cX7_compareTexts : ByteArray := prog_1_method_5_code
def yX7_compareTexts : MethodName := ⟨RX7, "compareTexts", "([C[C)I"⟩
abbrev cX7_isObject : ByteArray := prog_1_method_6_code
def yX7_isObject : MethodName := ⟨RX7, "isObject", "(I)Z"⟩
abbrev cX7_isSign : ByteArray := prog_1_method_7_code
def yX7_isSign : MethodName := ⟨RX7, "isSign", "(C)Z"⟩
abbrev cX7_clientOf : ByteArray := prog_1_method_8_code
def yX7_clientOf : MethodName := ⟨RX7, "clientOf", "(I)LFarfiles$Client;"⟩
abbrev cX7_serverOf : ByteArray := prog_1_method_9_code
def yX7_serverOf : MethodName := ⟨RX7, "serverOf", "(I)LFarfiles$ActSet;"⟩
abbrev cX7_wireOf : ByteArray := prog_1_method_10_code
def yX7_wireOf : MethodName := ⟨RX7, "wireOf", "(II)I"⟩
abbrev cX7_actOf : ByteArray := prog_1_method_11_code
def yX7_actOf : MethodName := ⟨RX7, "actOf", "(I)LFarfiles$Act;"⟩
abbrev cX7_hasObject : ByteArray := prog_1_method_12_code
def yX7_hasObject : MethodName := ⟨RX7, "hasObject", "(I)Z"⟩
abbrev cX7_hasDirectory : ByteArray := prog_1_method_13_code
def yX7_hasDirectory : MethodName := ⟨RX7, "hasDirectory", "(I)Z"⟩
abbrev cX7_type : ByteArray := prog_1_method_14_code
def yX7_type : MethodName := ⟨RX7, "type", "(C)I"⟩
abbrev cX7_erase : ByteArray := prog_1_method_16_code
def yX7_erase : MethodName := ⟨RX7, "erase", "()I"⟩
abbrev cX7_signAt : ByteArray := prog_1_method_18_code
def yX7_signAt : MethodName := ⟨RX7, "signAt", "(I)C"⟩
abbrev cX7_link : ByteArray := prog_1_method_19_code
def yX7_link : MethodName := ⟨RX7, "link", "(IIZ)Z"⟩
abbrev cX7_wire : ByteArray := prog_1_method_20_code
def yX7_wire : MethodName := ⟨RX7, "wire", "(IIZ)Z"⟩
abbrev cX7_near : ByteArray := prog_1_method_21_code
def yX7_near : MethodName := ⟨RX7, "near", "(I)I"⟩
abbrev cX7_refuse : ByteArray := prog_1_method_22_code
def yX7_refuse : MethodName := ⟨RX7, "refuse", "(C)V"⟩
abbrev cX7_callerOf : ByteArray := prog_1_method_23_code
def yX7_callerOf : MethodName := ⟨RX7, "callerOf", "(I)LFarfiles$Client;"⟩
abbrev cX7_lookAt : ByteArray := prog_1_method_24_code
def yX7_lookAt : MethodName := ⟨RX7, "lookAt", "(LFarfiles$Client;I)V"⟩
abbrev cX7_nextOf : ByteArray := prog_1_method_25_code
def yX7_nextOf : MethodName := ⟨RX7, "nextOf", "(LFarfiles$Client;II)I"⟩
abbrev cX7_go : ByteArray := prog_1_method_26_code
def yX7_go : MethodName := ⟨RX7, "go", "(LFarfiles$Client;LFarfiles$Path;I)I"⟩
abbrev cX7_goToDirectory : ByteArray := prog_1_method_27_code
def yX7_goToDirectory : MethodName := ⟨RX7, "goToDirectory", "(LFarfiles$Client;LFarfiles$Path;)I"⟩
abbrev cX7_goOn : ByteArray := prog_1_method_28_code
def yX7_goOn : MethodName := ⟨RX7, "goOn", "(LFarfiles$Client;LFarfiles$Path;I)I"⟩
abbrev cX7_refuseIfThere : ByteArray := prog_1_method_29_code
def yX7_refuseIfThere : MethodName := ⟨RX7, "refuseIfThere", "(LFarfiles$Client;II)V"⟩
abbrev cX7_refuseIfTooFew : ByteArray := prog_1_method_30_code
def yX7_refuseIfTooFew : MethodName := ⟨RX7, "refuseIfTooFew", "(I)V"⟩
abbrev cX7_takePath : ByteArray := prog_1_method_31_code
def yX7_takePath : MethodName := ⟨RX7, "takePath", "()I"⟩
abbrev cX7_takePathOfLetters : ByteArray := prog_1_method_32_code
def yX7_takePathOfLetters : MethodName := ⟨RX7, "takePathOfLetters", "()I"⟩
abbrev cX7_takeTwoPaths : ByteArray := prog_1_method_33_code
def yX7_takeTwoPaths : MethodName := ⟨RX7, "takeTwoPaths", "()I"⟩
abbrev cX7_enter : ByteArray := prog_1_method_34_code
def yX7_enter : MethodName := ⟨RX7, "enter", "(LFarfiles$Client;LFarfiles$Act;)I"⟩
abbrev cX7_bringSome : ByteArray := prog_1_method_35_code
def yX7_bringSome : MethodName := ⟨RX7, "bringSome", "(LFarfiles$Client;I)I"⟩
abbrev cX7_addEntry : ByteArray := prog_1_method_36_code
def yX7_addEntry : MethodName := ⟨RX7, "addEntry", "(LFarfiles$Client;III)V"⟩
abbrev cX7_cutEntries : ByteArray := prog_1_method_37_code
def yX7_cutEntries : MethodName := ⟨RX7, "cutEntries", "(LFarfiles$Client;III)V"⟩
abbrev cX7_makeIn : ByteArray := prog_1_method_38_code
def yX7_makeIn : MethodName := ⟨RX7, "makeIn", "(LFarfiles$Client;IZ)I"⟩
abbrev cX7_makeFile : ByteArray := prog_1_method_39_code
def yX7_makeFile : MethodName := ⟨RX7, "makeFile", "(I)I"⟩
abbrev cX7_makeDirectory : ByteArray := prog_1_method_40_code
def yX7_makeDirectory : MethodName := ⟨RX7, "makeDirectory", "(I)I"⟩
abbrev cX7_store : ByteArray := prog_1_method_41_code
def yX7_store : MethodName := ⟨RX7, "store", "(I)I"⟩
abbrev cX7_remove : ByteArray := prog_1_method_42_code
def yX7_remove : MethodName := ⟨RX7, "remove", "(I)I"⟩
abbrev cX7_rename : ByteArray := prog_1_method_43_code
def yX7_rename : MethodName := ⟨RX7, "rename", "(I)I"⟩
abbrev cX7_reason : ByteArray := prog_1_method_44_code
def yX7_reason : MethodName := ⟨RX7, "reason", "()C"⟩
abbrev cX7_tellOf : ByteArray := prog_1_method_45_code
def yX7_tellOf : MethodName := ⟨RX7, "tellOf", "(LFarfiles$ActSet;I)I"⟩
abbrev cX7_tellFound : ByteArray := prog_1_method_46_code
def yX7_tellFound : MethodName := ⟨RX7, "tellFound", "(LFarfiles$Client;Z)I"⟩
abbrev cX7_read : ByteArray := prog_1_method_47_code
def yX7_read : MethodName := ⟨RX7, "read", "(I)I"⟩
abbrev cX7_list : ByteArray := prog_1_method_48_code
def yX7_list : MethodName := ⟨RX7, "list", "(I)I"⟩
abbrev cX7_find : ByteArray := prog_1_method_49_code
def yX7_find : MethodName := ⟨RX7, "find", "(I)I"⟩
abbrev cX7_answer : ByteArray := prog_1_method_51_code
def yX7_answer : MethodName := ⟨RX7, "answer", "(I)I"⟩
abbrev cX7_answerObject : ByteArray := prog_1_method_52_code
def yX7_answerObject : MethodName := ⟨RX7, "answerObject", "(I)I"⟩
abbrev cX7_outgoing : ByteArray := prog_1_method_59_code
def yX7_outgoing : MethodName := ⟨RX7, "outgoing", "(I)I"⟩
abbrev cX7_bring : ByteArray := prog_1_method_60_code
def yX7_bring : MethodName := ⟨RX7, "bring", "(II)I"⟩
abbrev cX7_hear : ByteArray := prog_1_method_61_code
def yX7_hear : MethodName := ⟨RX7, "hear", "(II)I"⟩
abbrev cX7_known : ByteArray := prog_1_method_62_code
def yX7_known : MethodName := ⟨RX7, "known", "(I)I"⟩
abbrev cX7_isAlike : ByteArray := prog_1_method_64_code
def yX7_isAlike : MethodName := ⟨RX7, "isAlike", "(II)Z"⟩
abbrev cX7_serverTells : ByteArray := prog_1_method_65_code
def yX7_serverTells : MethodName := ⟨RX7, "serverTells", "(II)I"⟩
abbrev cX7_markWays : ByteArray := prog_1_method_67_code
def yX7_markWays : MethodName := ⟨RX7, "markWays", "(LFarfiles$ActSet;)V"⟩
abbrev cX7_markLost : ByteArray := prog_1_method_68_code
def yX7_markLost : MethodName := ⟨RX7, "markLost", "(LFarfiles$ActSet;[Z)V"⟩
abbrev cX7_lost : ByteArray := prog_1_method_69_code
def yX7_lost : MethodName := ⟨RX7, "lost", "(I)I"⟩
abbrev cX7_acts : ByteArray := prog_1_method_70_code
def yX7_acts : MethodName := ⟨RX7, "acts", "()I"⟩
abbrev cX7_actObject : ByteArray := prog_1_method_71_code
def yX7_actObject : MethodName := ⟨RX7, "actObject", "(I)I"⟩
abbrev cX7_actClient : ByteArray := prog_1_method_72_code
def yX7_actClient : MethodName := ⟨RX7, "actClient", "(I)I"⟩
abbrev cX7_actKind : ByteArray := prog_1_method_73_code
def yX7_actKind : MethodName := ⟨RX7, "actKind", "(I)C"⟩
abbrev cX7_hasSeen : ByteArray := prog_1_method_74_code
def yX7_hasSeen : MethodName := ⟨RX7, "hasSeen", "(II)Z"⟩
abbrev cX7_isHoldSound : ByteArray := prog_1_method_81_code
def yX7_isHoldSound : MethodName := ⟨RX7, "isHoldSound", "(LFarfiles$Client;)Z"⟩
abbrev cX7_isLostAlike : ByteArray := prog_1_method_82_code
def yX7_isLostAlike : MethodName := ⟨RX7, "isLostAlike", "(LFarfiles$ActSet;LFarfiles$ActSet;)Z"⟩
abbrev cX7_isSound : ByteArray := prog_1_method_83_code
def yX7_isSound : MethodName := ⟨RX7, "isSound", "()Z"⟩
def RX8 : String := "FarfilesModel$Act"
def TX8 : u_T := fun k => match k with
  | _ => ("", "", "", false)
def tyX8 : Nat → FieldType := fun k => match k with
  | _ => .int
abbrev wsX80 : List Cond := u_ws RX8 TX8 0
theorem nmX8 : ∀ a, a < 0 → ∀ b, b < 0 → a ≠ b → (TX8 a).2.1 ≠ (TX8 b).2.1 := by decide +kernel
theorem tyX8_ok : ∀ k, k < 0 → parseFieldDescriptor (TX8 k).2.2.1 = some (tyX8 k) := by decide +kernel
def RX9 : String := "FarfilesModel$Client"
def TX9 : u_T := fun k => match k with
  | _ => ("", "", "", false)
def tyX9 : Nat → FieldType := fun k => match k with
  | _ => .int
abbrev wsX90 : List Cond := u_ws RX9 TX9 0
theorem nmX9 : ∀ a, a < 0 → ∀ b, b < 0 → a ≠ b → (TX9 a).2.1 ≠ (TX9 b).2.1 := by decide +kernel
theorem tyX9_ok : ∀ k, k < 0 → parseFieldDescriptor (TX9 k).2.2.1 = some (tyX9 k) := by decide +kernel
def RX10 : String := "FarfilesModel$Entry"
def TX10 : u_T := fun k => match k with
  | _ => ("", "", "", false)
def tyX10 : Nat → FieldType := fun k => match k with
  | _ => .int
abbrev wsX100 : List Cond := u_ws RX10 TX10 0
theorem nmX10 : ∀ a, a < 0 → ∀ b, b < 0 → a ≠ b → (TX10 a).2.1 ≠ (TX10 b).2.1 := by decide +kernel
theorem tyX10_ok : ∀ k, k < 0 → parseFieldDescriptor (TX10 k).2.2.1 = some (tyX10 k) := by decide +kernel
def RX11 : String := "FarfilesModel$Hold"
def TX11 : u_T := fun k => match k with
  | _ => ("", "", "", false)
def tyX11 : Nat → FieldType := fun k => match k with
  | _ => .int
abbrev wsX110 : List Cond := u_ws RX11 TX11 0
theorem nmX11 : ∀ a, a < 0 → ∀ b, b < 0 → a ≠ b → (TX11 a).2.1 ≠ (TX11 b).2.1 := by decide +kernel
theorem tyX11_ok : ∀ k, k < 0 → parseFieldDescriptor (TX11 k).2.2.1 = some (tyX11 k) := by decide +kernel
def RX12 : String := "FarfilesModel$No"
def TX12 : u_T := fun k => match k with
  | _ => ("", "", "", false)
def tyX12 : Nat → FieldType := fun k => match k with
  | _ => .int
abbrev wsX120 : List Cond := u_ws RX12 TX12 0
theorem nmX12 : ∀ a, a < 0 → ∀ b, b < 0 → a ≠ b → (TX12 a).2.1 ≠ (TX12 b).2.1 := by decide +kernel
theorem tyX12_ok : ∀ k, k < 0 → parseFieldDescriptor (TX12 k).2.2.1 = some (tyX12 k) := by decide +kernel
def RX13 : String := "FarfilesModel$Read"
def TX13 : u_T := fun k => match k with
  | _ => ("", "", "", false)
def tyX13 : Nat → FieldType := fun k => match k with
  | _ => .int
abbrev wsX130 : List Cond := u_ws RX13 TX13 0
theorem nmX13 : ∀ a, a < 0 → ∀ b, b < 0 → a ≠ b → (TX13 a).2.1 ≠ (TX13 b).2.1 := by decide +kernel
theorem tyX13_ok : ∀ k, k < 0 → parseFieldDescriptor (TX13 k).2.2.1 = some (tyX13 k) := by decide +kernel
def RX14 : String := "FarfilesModel"
def TX14 : u_T := fun k => match k with
  | _ => ("", "", "", false)
def tyX14 : Nat → FieldType := fun k => match k with
  | _ => .int
abbrev wsX140 : List Cond := u_ws RX14 TX14 0
theorem nmX14 : ∀ a, a < 0 → ∀ b, b < 0 → a ≠ b → (TX14 a).2.1 ≠ (TX14 b).2.1 := by decide +kernel
theorem tyX14_ok : ∀ k, k < 0 → parseFieldDescriptor (TX14 k).2.2.1 = some (tyX14 k) := by decide +kernel
def RJx145de : String := "java/io/Serializable"
def TJx145de : u_T := fun k => match k with
  | _ => ("", "", "", false)
def tyJx145de : Nat → FieldType := fun k => match k with
  | _ => .int
theorem nmJx145de : ∀ a, a < 0 → ∀ b, b < 0 → a ≠ b → (TJx145de a).2.1 ≠ (TJx145de b).2.1 := by decide +kernel
theorem tyJx145de_ok : ∀ k, k < 0 → parseFieldDescriptor (TJx145de k).2.2.1 = some (tyJx145de k) := by decide +kernel
def RJ5 : String := "java/lang/AbstractStringBuilder"
def TJ5 : u_T := fun k => match k with
  | _ => ("", "", "", false)
def tyJ5 : Nat → FieldType := fun k => match k with
  | _ => .int
abbrev wsJ50 : List Cond := u_ws RJ5 TJ5 0
theorem nmJ5 : ∀ a, a < 0 → ∀ b, b < 0 → a ≠ b → (TJ5 a).2.1 ≠ (TJ5 b).2.1 := by decide +kernel
theorem tyJ5_ok : ∀ k, k < 0 → parseFieldDescriptor (TJ5 k).2.2.1 = some (tyJ5 k) := by decide +kernel
abbrev cJ5_init_d00df : ByteArray := prog_18_method_2_code
def yJ5_init_d00df : MethodName := ⟨RJ5, "<init>", "(I)V"⟩
abbrev cJ5_length_8abf5 : ByteArray := prog_18_method_6_code
def yJ5_length_8abf5 : MethodName := ⟨RJ5, "length", "()I"⟩
abbrev cJ5_ensureCapacityInternal_d00df : ByteArray := prog_18_method_9_code
def yJ5_ensureCapacityInternal_d00df : MethodName := ⟨RJ5, "ensureCapacityInternal", "(I)V"⟩
abbrev cJ5_newCapacity_0f7a4 : ByteArray := prog_18_method_10_code
def yJ5_newCapacity_0f7a4 : MethodName := ⟨RJ5, "newCapacity", "(I)I"⟩
abbrev cJ5_inflate_da8c8 : ByteArray := prog_18_method_11_code
def yJ5_inflate_da8c8 : MethodName := ⟨RJ5, "inflate", "()V"⟩
abbrev cJ5_append_cf1ce : ByteArray := prog_18_method_22_code
def yJ5_append_cf1ce : MethodName := ⟨RJ5, "append", "(Ljava/lang/String;)Ljava/lang/AbstractStringBuilder;"⟩
abbrev cJ5_appendNull_278bc : ByteArray := prog_18_method_26_code
def yJ5_appendNull_278bc : MethodName := ⟨RJ5, "appendNull", "()Ljava/lang/AbstractStringBuilder;"⟩
abbrev cJ5_append_3fe6f : ByteArray := prog_18_method_31_code
def yJ5_append_3fe6f : MethodName := ⟨RJ5, "append", "(C)Ljava/lang/AbstractStringBuilder;"⟩
abbrev cJ5_append_c97b9 : ByteArray := prog_18_method_32_code
def yJ5_append_c97b9 : MethodName := ⟨RJ5, "append", "(I)Ljava/lang/AbstractStringBuilder;"⟩
abbrev cJ5_getValue_6d5f1 : ByteArray := prog_18_method_64_code
def yJ5_getValue_6d5f1 : MethodName := ⟨RJ5, "getValue", "()[B"⟩
abbrev cJ5_isLatin1_aae02 : ByteArray := prog_18_method_68_code
def yJ5_isLatin1_aae02 : MethodName := ⟨RJ5, "isLatin1", "()Z"⟩
abbrev cJ5_inflateIfNeededFor_a7421 : ByteArray := prog_18_method_71_code
def yJ5_inflateIfNeededFor_a7421 : MethodName := ⟨RJ5, "inflateIfNeededFor", "(Ljava/lang/String;)V"⟩
abbrev cJ5_putStringAt_47b60 : ByteArray := prog_18_method_73_code
def yJ5_putStringAt_47b60 : MethodName := ⟨RJ5, "putStringAt", "(ILjava/lang/String;)V"⟩
def RJx2cfe8 : String := "java/lang/Appendable"
def TJx2cfe8 : u_T := fun k => match k with
  | _ => ("", "", "", false)
def tyJx2cfe8 : Nat → FieldType := fun k => match k with
  | _ => .int
theorem nmJx2cfe8 : ∀ a, a < 0 → ∀ b, b < 0 → a ≠ b → (TJx2cfe8 a).2.1 ≠ (TJx2cfe8 b).2.1 := by decide +kernel
theorem tyJx2cfe8_ok : ∀ k, k < 0 → parseFieldDescriptor (TJx2cfe8 k).2.2.1 = some (tyJx2cfe8 k) := by decide +kernel
def RJx9f9b0 : String := "java/lang/CharSequence"
def TJx9f9b0 : u_T := fun k => match k with
  | _ => ("", "", "", false)
def tyJx9f9b0 : Nat → FieldType := fun k => match k with
  | _ => .int
theorem nmJx9f9b0 : ∀ a, a < 0 → ∀ b, b < 0 → a ≠ b → (TJx9f9b0 a).2.1 ≠ (TJx9f9b0 b).2.1 := by decide +kernel
theorem tyJx9f9b0_ok : ∀ k, k < 0 → parseFieldDescriptor (TJx9f9b0 k).2.2.1 = some (tyJx9f9b0 k) := by decide +kernel
def RJx8e188 : String := "java/lang/Cloneable"
def TJx8e188 : u_T := fun k => match k with
  | _ => ("", "", "", false)
def tyJx8e188 : Nat → FieldType := fun k => match k with
  | _ => .int
theorem nmJx8e188 : ∀ a, a < 0 → ∀ b, b < 0 → a ≠ b → (TJx8e188 a).2.1 ≠ (TJx8e188 b).2.1 := by decide +kernel
theorem tyJx8e188_ok : ∀ k, k < 0 → parseFieldDescriptor (TJx8e188 k).2.2.1 = some (tyJx8e188 k) := by decide +kernel
def RJxb160c : String := "java/lang/Comparable"
def TJxb160c : u_T := fun k => match k with
  | _ => ("", "", "", false)
def tyJxb160c : Nat → FieldType := fun k => match k with
  | _ => .int
theorem nmJxb160c : ∀ a, a < 0 → ∀ b, b < 0 → a ≠ b → (TJxb160c a).2.1 ≠ (TJxb160c b).2.1 := by decide +kernel
theorem tyJxb160c_ok : ∀ k, k < 0 → parseFieldDescriptor (TJxb160c k).2.2.1 = some (tyJxb160c k) := by decide +kernel
def RJ6 : String := "java/lang/Integer"
def TJ6 : u_T := fun k => match k with
  | _ => ("", "", "", false)
def tyJ6 : Nat → FieldType := fun k => match k with
  | _ => .int
abbrev wsJ60 : List Cond := u_ws RJ6 TJ6 0
theorem nmJ6 : ∀ a, a < 0 → ∀ b, b < 0 → a ≠ b → (TJ6 a).2.1 ≠ (TJ6 b).2.1 := by decide +kernel
theorem tyJ6_ok : ∀ k, k < 0 → parseFieldDescriptor (TJ6 k).2.2.1 = some (tyJ6 k) := by decide +kernel
abbrev cJ6_getChars_ba4f3 : ByteArray := prog_27_method_12_code
def yJ6_getChars_ba4f3 : MethodName := ⟨RJ6, "getChars", "(II[B)I"⟩
abbrev cJ6_stringSize_0f7a4 : ByteArray := prog_27_method_13_code
def yJ6_stringSize_0f7a4 : MethodName := ⟨RJ6, "stringSize", "(I)I"⟩
abbrev cJ6_compare_7cf53 : ByteArray := prog_27_method_40_code
def yJ6_compare_7cf53 : MethodName := ⟨RJ6, "compare", "(II)I"⟩
def RJ13 : String := "java/lang/Long"
def TJ13 : u_T := fun k => match k with
  | _ => ("", "", "", false)
def tyJ13 : Nat → FieldType := fun k => match k with
  | _ => .int
abbrev wsJ130 : List Cond := u_ws RJ13 TJ13 0
theorem nmJ13 : ∀ a, a < 0 → ∀ b, b < 0 → a ≠ b → (TJ13 a).2.1 ≠ (TJ13 b).2.1 := by decide +kernel
theorem tyJ13_ok : ∀ k, k < 0 → parseFieldDescriptor (TJ13 k).2.2.1 = some (tyJ13 k) := by decide +kernel
abbrev cJ13_bitCount_95d88 : ByteArray := prog_28_method_50_code
def yJ13_bitCount_95d88 : MethodName := ⟨RJ13, "bitCount", "(J)I"⟩
def RJ9 : String := "java/lang/Math"
def TJ9 : u_T := fun k => match k with
  | _ => ("", "", "", false)
def tyJ9 : Nat → FieldType := fun k => match k with
  | _ => .int
abbrev wsJ90 : List Cond := u_ws RJ9 TJ9 0
theorem nmJ9 : ∀ a, a < 0 → ∀ b, b < 0 → a ≠ b → (TJ9 a).2.1 ≠ (TJ9 b).2.1 := by decide +kernel
theorem tyJ9_ok : ∀ k, k < 0 → parseFieldDescriptor (TJ9 k).2.2.1 = some (tyJ9 k) := by decide +kernel
abbrev cJ9_max_7cf53 : ByteArray := prog_29_method_65_code
def yJ9_max_7cf53 : MethodName := ⟨RJ9, "max", "(II)I"⟩
abbrev cJ9_min_7cf53 : ByteArray := prog_29_method_69_code
def yJ9_min_7cf53 : MethodName := ⟨RJ9, "min", "(II)I"⟩
def RJxd2413 : String := "java/lang/Number"
def TJxd2413 : u_T := fun k => match k with
  | _ => ("", "", "", false)
def tyJxd2413 : Nat → FieldType := fun k => match k with
  | _ => .int
theorem nmJxd2413 : ∀ a, a < 0 → ∀ b, b < 0 → a ≠ b → (TJxd2413 a).2.1 ≠ (TJxd2413 b).2.1 := by decide +kernel
theorem tyJxd2413_ok : ∀ k, k < 0 → parseFieldDescriptor (TJxd2413 k).2.2.1 = some (tyJxd2413 k) := by decide +kernel
def RJ0 : String := "java/lang/String"
def TJ0 : u_T := fun k => match k with
  | 0 => ("java/lang/String", "value", "[B", true)
  | 1 => ("java/lang/String", "coder", "B", true)
  | 2 => ("java/lang/String", "hash", "I", false)
  | _ => ("java/lang/String", "hashIsZero", "Z", false)
def tyJ0 : Nat → FieldType := fun k => match k with
  | 0 => .array .byte
  | 1 => .byte
  | 2 => .int
  | _ => .boolean
abbrev wsJ00 : List Cond := u_ws RJ0 TJ0 4
theorem nmJ0 : ∀ a, a < 4 → ∀ b, b < 4 → a ≠ b → (TJ0 a).2.1 ≠ (TJ0 b).2.1 := by decide +kernel
theorem tyJ0_ok : ∀ k, k < 4 → parseFieldDescriptor (TJ0 k).2.2.1 = some (tyJ0 k) := by decide +kernel
abbrev cJ0_init_81219 : ByteArray := prog_32_method_53_code
def yJ0_init_81219 : MethodName := ⟨RJ0, "<init>", "(Ljava/lang/StringBuilder;)V"⟩
abbrev cJ0_length_8abf5 : ByteArray := prog_32_method_54_code
def yJ0_length_8abf5 : MethodName := ⟨RJ0, "length", "()I"⟩
abbrev cJ0_charAt_5068e : ByteArray := prog_32_method_56_code
def yJ0_charAt_5068e : MethodName := ⟨RJ0, "charAt", "(I)C"⟩
abbrev cJ0_getBytes_840e7 : ByteArray := prog_32_method_147_code
def yJ0_getBytes_840e7 : MethodName := ⟨RJ0, "getBytes", "([BIB)V"⟩
abbrev cJ0_init_db425 : ByteArray := prog_32_method_150_code
def yJ0_init_db425 : MethodName := ⟨RJ0, "<init>", "(Ljava/lang/AbstractStringBuilder;Ljava/lang/Void;)V"⟩
abbrev cJ0_coder_7d493 : ByteArray := prog_32_method_152_code
def yJ0_coder_7d493 : MethodName := ⟨RJ0, "coder", "()B"⟩
abbrev cJ0_isLatin1_aae02 : ByteArray := prog_32_method_154_code
def yJ0_isLatin1_aae02 : MethodName := ⟨RJ0, "isLatin1", "()Z"⟩
abbrev cJ0_checkIndex_df160 : ByteArray := prog_32_method_155_code
def yJ0_checkIndex_df160 : MethodName := ⟨RJ0, "checkIndex", "(II)V"⟩
abbrev cJ0_checkBoundsOffCount_cabcc : ByteArray := prog_32_method_157_code
def yJ0_checkBoundsOffCount_cabcc : MethodName := ⟨RJ0, "checkBoundsOffCount", "(III)I"⟩
abbrev cJ0_checkBoundsBeginEnd_23922 : ByteArray := prog_32_method_158_code
def yJ0_checkBoundsBeginEnd_23922 : MethodName := ⟨RJ0, "checkBoundsBeginEnd", "(III)V"⟩
def RJ4 : String := "java/lang/StringBuilder"
def TJ4 : u_T := fun k => match k with
  | 0 => ("java/lang/AbstractStringBuilder", "value", "[B", false)
  | 1 => ("java/lang/AbstractStringBuilder", "coder", "B", false)
  | 2 => ("java/lang/AbstractStringBuilder", "maybeLatin1", "Z", false)
  | _ => ("java/lang/AbstractStringBuilder", "count", "I", false)
def tyJ4 : Nat → FieldType := fun k => match k with
  | 0 => .array .byte
  | 1 => .byte
  | 2 => .boolean
  | _ => .int
abbrev wsJ40 : List Cond := u_ws RJ4 TJ4 4
theorem nmJ4 : ∀ a, a < 4 → ∀ b, b < 4 → a ≠ b → (TJ4 a).2.1 ≠ (TJ4 b).2.1 := by decide +kernel
theorem tyJ4_ok : ∀ k, k < 4 → parseFieldDescriptor (TJ4 k).2.2.1 = some (tyJ4 k) := by decide +kernel
abbrev cJ4_init_da8c8 : ByteArray := prog_33_method_1_code
def yJ4_init_da8c8 : MethodName := ⟨RJ4, "<init>", "()V"⟩
abbrev cJ4_append_15ec4 : ByteArray := prog_33_method_7_code
def yJ4_append_15ec4 : MethodName := ⟨RJ4, "append", "(Ljava/lang/String;)Ljava/lang/StringBuilder;"⟩
abbrev cJ4_append_cf468 : ByteArray := prog_33_method_14_code
def yJ4_append_cf468 : MethodName := ⟨RJ4, "append", "(C)Ljava/lang/StringBuilder;"⟩
abbrev cJ4_append_bf812 : ByteArray := prog_33_method_15_code
def yJ4_append_bf812 : MethodName := ⟨RJ4, "append", "(I)Ljava/lang/StringBuilder;"⟩
abbrev cJ4_toString_0e30d : ByteArray := prog_33_method_42_code
def yJ4_toString_0e30d : MethodName := ⟨RJ4, "toString", "()Ljava/lang/String;"⟩
abbrev cJ4_length_8abf5 : ByteArray := prog_33_method_93_code
def yJ4_length_8abf5 : MethodName := ⟨RJ4, "length", "()I"⟩
def RJ1 : String := "java/lang/StringLatin1"
def TJ1 : u_T := fun k => match k with
  | _ => ("", "", "", false)
def tyJ1 : Nat → FieldType := fun k => match k with
  | _ => .int
abbrev wsJ10 : List Cond := u_ws RJ1 TJ1 0
theorem nmJ1 : ∀ a, a < 0 → ∀ b, b < 0 → a ≠ b → (TJ1 a).2.1 ≠ (TJ1 b).2.1 := by decide +kernel
theorem tyJ1_ok : ∀ k, k < 0 → parseFieldDescriptor (TJ1 k).2.2.1 = some (tyJ1 k) := by decide +kernel
abbrev cJ1_charAt_3b067 : ByteArray := prog_34_method_2_code
def yJ1_charAt_3b067 : MethodName := ⟨RJ1, "charAt", "([BI)C"⟩
abbrev cJ1_canEncode_fc78d : ByteArray := prog_34_method_3_code
def yJ1_canEncode_fc78d : MethodName := ⟨RJ1, "canEncode", "(C)Z"⟩
abbrev cJ1_inflate_0e8fd : ByteArray := prog_34_method_50_code
def yJ1_inflate_0e8fd : MethodName := ⟨RJ1, "inflate", "([BI[BII)V"⟩
def RJ2 : String := "java/lang/StringUTF16"
def TJ2 : u_T := fun k => match k with
  | _ => ("", "", "", false)
def tyJ2 : Nat → FieldType := fun k => match k with
  | _ => .int
abbrev wsJ20 : List Cond := u_ws RJ2 TJ2 0
theorem nmJ2 : ∀ a, a < 0 → ∀ b, b < 0 → a ≠ b → (TJ2 a).2.1 ≠ (TJ2 b).2.1 := by decide +kernel
theorem tyJ2_ok : ∀ k, k < 0 → parseFieldDescriptor (TJ2 k).2.2.1 = some (tyJ2 k) := by decide +kernel
abbrev cJ2_newBytesFor_77867 : ByteArray := prog_35_method_2_code
def yJ2_newBytesFor_77867 : MethodName := ⟨RJ2, "newBytesFor", "(I)[B"⟩
abbrev cJ2_newBytesLength_0f7a4 : ByteArray := prog_35_method_3_code
def yJ2_newBytesLength_0f7a4 : MethodName := ⟨RJ2, "newBytesLength", "(I)I"⟩
abbrev cJ2_putChar_b72d1 : ByteArray := prog_35_method_4_code
def yJ2_putChar_b72d1 : MethodName := ⟨RJ2, "putChar", "([BII)V"⟩
abbrev cJ2_getChar_3b067 : ByteArray := prog_35_method_5_code
def yJ2_getChar_3b067 : MethodName := ⟨RJ2, "getChar", "([BI)C"⟩
abbrev cJ2_length_9d52b : ByteArray := prog_35_method_6_code
def yJ2_length_9d52b : MethodName := ⟨RJ2, "length", "([B)I"⟩
abbrev cJ2_coderFromArrayLen_85cad : ByteArray := prog_35_method_15_code
def yJ2_coderFromArrayLen_85cad : MethodName := ⟨RJ2, "coderFromArrayLen", "([BI)B"⟩
abbrev cJ2_compress_39247 : ByteArray := prog_35_method_17_code
def yJ2_compress_39247 : MethodName := ⟨RJ2, "compress", "([BII)[B"⟩
abbrev cJ2_compress_5af95 : ByteArray := prog_35_method_22_code
def yJ2_compress_5af95 : MethodName := ⟨RJ2, "compress", "([BI[BII)I"⟩
abbrev cJ2_putCharSB_b72d1 : ByteArray := prog_35_method_71_code
def yJ2_putCharSB_b72d1 : MethodName := ⟨RJ2, "putCharSB", "([BII)V"⟩
abbrev cJ2_getChars_46870 : ByteArray := prog_35_method_77_code
def yJ2_getChars_46870 : MethodName := ⟨RJ2, "getChars", "(III[B)I"⟩
abbrev cJ2_putCharsAt_cd4e5 : ByteArray := prog_35_method_81_code
def yJ2_putCharsAt_cd4e5 : MethodName := ⟨RJ2, "putCharsAt", "([BICCCC)I"⟩
abbrev cJ2_charAt_3b067 : ByteArray := prog_35_method_83_code
def yJ2_charAt_3b067 : MethodName := ⟨RJ2, "charAt", "([BI)C"⟩
abbrev cJ2_inflate_0e8fd : ByteArray := prog_35_method_86_code
def yJ2_inflate_0e8fd : MethodName := ⟨RJ2, "inflate", "([BI[BII)V"⟩
abbrev cJ2_getChars_ba4f3 : ByteArray := prog_35_method_89_code
def yJ2_getChars_ba4f3 : MethodName := ⟨RJ2, "getChars", "(II[B)I"⟩
abbrev cJ2_checkIndex_2214a : ByteArray := prog_35_method_91_code
def yJ2_checkIndex_2214a : MethodName := ⟨RJ2, "checkIndex", "(I[B)V"⟩
abbrev cJ2_checkBoundsBeginEnd_d044e : ByteArray := prog_35_method_93_code
def yJ2_checkBoundsBeginEnd_d044e : MethodName := ⟨RJ2, "checkBoundsBeginEnd", "(II[B)V"⟩
abbrev cJ2_checkBoundsOffCount_d044e : ByteArray := prog_35_method_94_code
def yJ2_checkBoundsOffCount_d044e : MethodName := ⟨RJ2, "checkBoundsOffCount", "(II[B)V"⟩
def RJ10 : String := "java/lang/System"
def TJ10 : u_T := fun k => match k with
  | _ => ("", "", "", false)
def tyJ10 : Nat → FieldType := fun k => match k with
  | _ => .int
abbrev wsJ100 : List Cond := u_ws RJ10 TJ10 0
theorem nmJ10 : ∀ a, a < 0 → ∀ b, b < 0 → a ≠ b → (TJ10 a).2.1 ≠ (TJ10 b).2.1 := by decide +kernel
theorem tyJ10_ok : ∀ k, k < 0 → parseFieldDescriptor (TJ10 k).2.2.1 = some (tyJ10 k) := by decide +kernel
def RJxfd54e : String := "java/lang/constant/Constable"
def TJxfd54e : u_T := fun k => match k with
  | _ => ("", "", "", false)
def tyJxfd54e : Nat → FieldType := fun k => match k with
  | _ => .int
theorem nmJxfd54e : ∀ a, a < 0 → ∀ b, b < 0 → a ≠ b → (TJxfd54e a).2.1 ≠ (TJxfd54e b).2.1 := by decide +kernel
theorem tyJxfd54e_ok : ∀ k, k < 0 → parseFieldDescriptor (TJxfd54e k).2.2.1 = some (tyJxfd54e k) := by decide +kernel
def RJx3cf43 : String := "java/lang/constant/ConstantDesc"
def TJx3cf43 : u_T := fun k => match k with
  | _ => ("", "", "", false)
def tyJx3cf43 : Nat → FieldType := fun k => match k with
  | _ => .int
theorem nmJx3cf43 : ∀ a, a < 0 → ∀ b, b < 0 → a ≠ b → (TJx3cf43 a).2.1 ≠ (TJx3cf43 b).2.1 := by decide +kernel
theorem tyJx3cf43_ok : ∀ k, k < 0 → parseFieldDescriptor (TJx3cf43 k).2.2.1 = some (tyJx3cf43 k) := by decide +kernel
def RJ7 : String := "java/util/Arrays"
def TJ7 : u_T := fun k => match k with
  | _ => ("", "", "", false)
def tyJ7 : Nat → FieldType := fun k => match k with
  | _ => .int
abbrev wsJ70 : List Cond := u_ws RJ7 TJ7 0
theorem nmJ7 : ∀ a, a < 0 → ∀ b, b < 0 → a ≠ b → (TJ7 a).2.1 ≠ (TJ7 b).2.1 := by decide +kernel
theorem tyJ7_ok : ∀ k, k < 0 → parseFieldDescriptor (TJ7 k).2.2.1 = some (tyJ7 k) := by decide +kernel
abbrev cJ7_copyOf_9075b : ByteArray := prog_41_method_121_code
def yJ7_copyOf_9075b : MethodName := ⟨RJ7, "copyOf", "([BI)[B"⟩
abbrev cJ7_checkLength_df160 : ByteArray := prog_41_method_131_code
def yJ7_checkLength_df160 : MethodName := ⟨RJ7, "checkLength", "(II)V"⟩
abbrev cJ7_copyOfRange_39247 : ByteArray := prog_41_method_132_code
def yJ7_copyOfRange_39247 : MethodName := ⟨RJ7, "copyOfRange", "([BII)[B"⟩
abbrev cJ7_copyOfRangeByte_39247 : ByteArray := prog_41_method_133_code
def yJ7_copyOfRangeByte_39247 : MethodName := ⟨RJ7, "copyOfRangeByte", "([BII)[B"⟩
def RJ8 : String := "jdk/internal/util/ArraysSupport"
def TJ8 : u_T := fun k => match k with
  | _ => ("", "", "", false)
def tyJ8 : Nat → FieldType := fun k => match k with
  | _ => .int
abbrev wsJ80 : List Cond := u_ws RJ8 TJ8 0
theorem nmJ8 : ∀ a, a < 0 → ∀ b, b < 0 → a ≠ b → (TJ8 a).2.1 ≠ (TJ8 b).2.1 := by decide +kernel
theorem tyJ8_ok : ∀ k, k < 0 → parseFieldDescriptor (TJ8 k).2.2.1 = some (tyJ8 k) := by decide +kernel
abbrev cJ8_newLength_cabcc : ByteArray := prog_43_method_27_code
def yJ8_newLength_cabcc : MethodName := ⟨RJ8, "newLength", "(III)I"⟩
abbrev cJ8_hugeLength_7cf53 : ByteArray := prog_43_method_28_code
def yJ8_hugeLength_7cf53 : MethodName := ⟨RJ8, "hugeLength", "(II)I"⟩
def RJ3 : String := "jdk/internal/util/Preconditions"
def TJ3 : u_T := fun k => match k with
  | _ => ("", "", "", false)
def tyJ3 : Nat → FieldType := fun k => match k with
  | _ => .int
abbrev wsJ30 : List Cond := u_ws RJ3 TJ3 0
theorem nmJ3 : ∀ a, a < 0 → ∀ b, b < 0 → a ≠ b → (TJ3 a).2.1 ≠ (TJ3 b).2.1 := by decide +kernel
theorem tyJ3_ok : ∀ k, k < 0 → parseFieldDescriptor (TJ3 k).2.2.1 = some (tyJ3 k) := by decide +kernel
abbrev cJ3_checkIndex_8e157 : ByteArray := prog_44_method_11_code
def yJ3_checkIndex_8e157 : MethodName := ⟨RJ3, "checkIndex", "(IILjava/util/function/BiFunction;)I"⟩
abbrev cJ3_checkFromToIndex_8c36e : ByteArray := prog_44_method_12_code
def yJ3_checkFromToIndex_8c36e : MethodName := ⟨RJ3, "checkFromToIndex", "(IIILjava/util/function/BiFunction;)I"⟩
abbrev cJ3_checkFromIndexSize_8c36e : ByteArray := prog_44_method_13_code
def yJ3_checkFromIndexSize_8c36e : MethodName := ⟨RJ3, "checkFromIndexSize", "(IIILjava/util/function/BiFunction;)I"⟩
def RL : String := "FarfilesLaw"
def TL : u_T := fun k => match k with
  | 0 => ("FarfilesLaw", "script", "[I", false)
  | 1 => ("FarfilesLaw", "at", "I", false)
  | 2 => ("FarfilesLaw", "seed", "I", false)
  | 3 => ("FarfilesLaw", "x", "LFarfiles;", true)
  | _ => ("FarfilesLaw", "files", "I", false)
def tyL : Nat → FieldType := fun k => match k with
  | 0 => .array .int
  | 1 => .int
  | 2 => .int
  | 3 => .object "Farfiles"
  | _ => .int
abbrev wsL0 : List Cond := u_ws RL TL 5
theorem nmL : ∀ a, a < 5 → ∀ b, b < 5 → a ≠ b → (TL a).2.1 ≠ (TL b).2.1 := by decide +kernel
theorem tyL_ok : ∀ k, k < 5 → parseFieldDescriptor (TL k).2.2.1 = some (tyL k) := by decide +kernel
abbrev cL_init : ByteArray := method_1_code
def yL_init : MethodName := ⟨RL, "<init>", "()V"⟩
abbrev cL_cell : ByteArray := method_2_code
def yL_cell : MethodName := ⟨RL, "cell", "([II)I"⟩
abbrev cL_draw : ByteArray := method_3_code
def yL_draw : MethodName := ⟨RL, "draw", "(I)I"⟩
abbrev cL_stirred : ByteArray := method_4_code
def yL_stirred : MethodName := ⟨RL, "stirred", "([I)I"⟩
abbrev cL_mixed : ByteArray := method_5_code
def yL_mixed : MethodName := ⟨RL, "mixed", "(II)I"⟩
abbrev cL_types : ByteArray := method_6_code
def yL_types : MethodName := ⟨RL, "types", "(Ljava/lang/String;)V"⟩
abbrev cL_word : ByteArray := method_7_code
def yL_word : MethodName := ⟨RL, "word", "()Ljava/lang/String;"⟩
abbrev cL_name : ByteArray := method_8_code
def yL_name : MethodName := ⟨RL, "name", "()Ljava/lang/String;"⟩
abbrev cL_links : ByteArray := method_9_code
def yL_links : MethodName := ⟨RL, "links", "(IZ)V"⟩
abbrev cL_brings : ByteArray := method_10_code
def yL_brings : MethodName := ⟨RL, "brings", "(I)V"⟩
abbrev cL_hears : ByteArray := method_11_code
def yL_hears : MethodName := ⟨RL, "hears", "()Z"⟩
abbrev cL_isText : ByteArray := method_12_code
def yL_isText : MethodName := ⟨RL, "isText", "(ILjava/lang/String;Ljava/lang/String;)Z"⟩
abbrev cL_areStored : ByteArray := method_13_code
def yL_areStored : MethodName := ⟨RL, "areStored", "()Z"⟩
abbrev cL_isLost : ByteArray := method_14_code
def yL_isLost : MethodName := ⟨RL, "isLost", "()Z"⟩
abbrev cL_isRenamed : ByteArray := method_15_code
def yL_isRenamed : MethodName := ⟨RL, "isRenamed", "()Z"⟩
abbrev cL_holdsAll : ByteArray := method_16_code
def yL_holdsAll : MethodName := ⟨RL, "holdsAll", "([I)Z"⟩
abbrev cL_law : ByteArray := code
def yL_law : MethodName := ⟨RL, "law", "([I)Z"⟩
abbrev vwCl : List vw_C := [(RJ0, TJ0, 4), (RJ4, TJ4, 4), (RX0, TX0, 8), (RX1, TX1, 1), (RX2, TX2, 4), (RX3, TX3, 12), (RX4, TX4, 2), (RX5, TX5, 5), (RX6, TX6, 5), (RX7, TX7, 16), (RL, TL, 5)]
end
section
/-! THE MEMORY OF THE SMALL MACHINE: one natural number, slots of 48 bits. All that the kernel runs is arithmetic on such numbers. -/
noncomputable def gx_rd (M a : Nat) : Nat := Nat.land (Nat.shiftRight M (Nat.mul a 48)) 281474976710655
noncomputable def gx_wr (M a v : Nat) : Nat := Nat.xor M (Nat.shiftLeft (Nat.xor (gx_rd M a) v) (Nat.mul a 48))
theorem gh_bit (M a i : Nat) : (gx_rd M a).testBit i = (decide (i < 48) && M.testBit (48 * a + i)) := by
  show ((M >>> (a * 48)) &&& (2 ^ 48 - 1)).testBit i = _
  rw [Nat.testBit_and, Nat.testBit_two_pow_sub_one, Nat.testBit_shiftRight, Bool.and_comm, Nat.mul_comm]
theorem gh_lt (M a : Nat) : gx_rd M a < 281474976710656 := by
  have h : (M >>> (a * 48)) &&& (2 ^ 48 - 1) ≤ 2 ^ 48 - 1 := Nat.and_le_right
  show (M >>> (a * 48)) &&& (2 ^ 48 - 1) < _
  omega
theorem gh_wbit (M a v j : Nat) : (gx_wr M a v).testBit j = (M.testBit j ^^ (decide (48 * a ≤ j) && ((gx_rd M a).testBit (j - 48 * a) ^^ v.testBit (j - 48 * a)))) := by
  show (M ^^^ ((gx_rd M a ^^^ v) <<< (a * 48))).testBit j = _
  rw [Nat.testBit_xor, Nat.testBit_shiftLeft, Nat.testBit_xor, Nat.mul_comm a 48]
theorem gh_same {M a v : Nat} (h : v < 281474976710656) : gx_rd (gx_wr M a v) a = v := by
  apply Nat.eq_of_testBit_eq
  intro i
  rw [gh_bit, gh_wbit, gh_bit, show 48 * a + i - 48 * a = i by omega]
  by_cases hi : i < 48
  · simp [hi]
  · rw [Nat.testBit_lt_two_pow (Nat.lt_of_lt_of_le h (show 281474976710656 ≤ 2 ^ i from Nat.le_trans (show 281474976710656 ≤ 2 ^ 48 by decide) (Nat.pow_le_pow_right (by decide) (by omega))))]
    simp [hi]
theorem gh_ne {M a v b : Nat} (h : v < 281474976710656) (hn : a ≠ b) : gx_rd (gx_wr M a v) b = gx_rd M b := by
  apply Nat.eq_of_testBit_eq
  intro i
  rw [gh_bit, gh_bit, gh_wbit]
  by_cases hi : i < 48
  · simp only [hi, decide_true, Bool.true_and]
    by_cases hc : 48 * a ≤ 48 * b + i
    · have h48 : 48 ≤ 48 * b + i - 48 * a := by omega
      rw [gh_bit, Nat.testBit_lt_two_pow (Nat.lt_of_lt_of_le h (show 281474976710656 ≤ 2 ^ (48 * b + i - 48 * a) from Nat.le_trans (show 281474976710656 ≤ 2 ^ 48 by decide) (Nat.pow_le_pow_right (by decide) h48)))]
      simp [show ¬ (48 * b + i - 48 * a < 48) by omega]
    · simp [hc]
  · simp [hi]
theorem gh_wr {M a v b : Nat} (h : v < 281474976710656) : gx_rd (gx_wr M a v) b = if a = b then v else gx_rd M b := by
  by_cases hn : a = b
  · subst hn; rw [gh_same h, if_pos rfl]
  · rw [gh_ne h hn, if_neg hn]
theorem gh_zero (a : Nat) : gx_rd 0 a = 0 := by
  apply Nat.eq_of_testBit_eq
  intro i
  rw [gh_bit]
  simp
/-! booleans that choose -/
theorem gb_true {x t f : Bool} (h : Bool.rec (motive := fun _ => Bool) f t x = true) : (x = true ∧ t = true) ∨ (x = false ∧ f = true) := by
  cases x with
  | true => exact Or.inl ⟨rfl, h⟩
  | false => exact Or.inr ⟨rfl, h⟩
theorem gb_t {x t : Bool} (h : Bool.rec (motive := fun _ => Bool) false t x = true) : x = true ∧ t = true := by
  cases x with
  | true => exact ⟨rfl, h⟩
  | false => exact nomatch h
theorem gb_f {x t : Bool} (h : Bool.rec (motive := fun _ => Bool) t false x = true) : x = false ∧ t = true := by
  cases x with
  | false => exact ⟨rfl, h⟩
  | true => exact nomatch h
theorem gb_ble {a b : Nat} (h : Nat.ble a b = true) : a ≤ b := Nat.le_of_ble_eq_true h
theorem gb_beq {a b : Nat} (h : Nat.beq a b = true) : a = b := Nat.eq_of_beq_eq_true h
theorem gb_nbeq {a b : Nat} (h : Nat.beq a b = false) : a ≠ b := fun e => by rw [e, Nat.beq_refl] at h; exact nomatch h
theorem gb_nble {a b : Nat} (h : Nat.ble a b = false) : b < a := by
  rcases Nat.lt_or_ge b a with q | q
  · exact q
  · rw [Nat.ble_eq_true_of_le q] at h; exact nomatch h
theorem gb_lor {a b n : Nat} (h : Nat.ble (Nat.lor a b) (2 ^ n - 1) = true) : a < 2 ^ n ∧ b < 2 ^ n := by
  have h1 : a ||| b ≤ 2 ^ n - 1 := Nat.le_of_ble_eq_true h
  have h2 : a ≤ a ||| b := Nat.left_le_or
  have h3 : b ≤ a ||| b := Nat.right_le_or
  have := Nat.two_pow_pos n
  omega
end
section
/-! NUMBERS OF THE SMALL MACHINE. Below 2^32: a whole number by its 32 bits. Above: w + c * d, where w are the low 32 bits, and the rest is 4 * k + the scale's number: d is the number drawn under the name k. -/
def gx_sc (c : Nat) : Int := if c = 0 then 1 else if c = 1 then 256 else if c = 2 then -1 else -10
noncomputable def gx_lo (k : Nat) : Nat := Nat.land (Nat.shiftRight 17432576 (Nat.mul 8 (Nat.mod k 8))) 255
noncomputable def gx_hi (k : Nat) : Nat := Nat.land (Nat.shiftRight 38812191001 (Nat.mul 8 (Nat.mod k 8))) 255
def gx_N (dk : Nat → Nat) (x : Nat) : Int32 := if x < 4294967296 then nI x else nI x + Int32.ofInt (gx_sc (x / 4294967296 % 4)) * nI (dk (x / 4294967296 / 4))
def gx_D (dk : Nat → Nat) : Prop := (∀ k, k % 8 ≤ 4 → gx_lo k ≤ dk k ∧ dk k ≤ gx_hi k) ∧ ∀ k, k % 8 = 2 → dk (k + 1) = dk k / 10 ∧ dk (k + 2) = dk k % 10
/-- the low 32 bits are others -/
noncomputable def gx_low (x z : Nat) : Nat := Nat.add (Nat.mul (Nat.div x 4294967296) 4294967296) (Nat.mod z 4294967296)
/-- a range, from -2^31 on; does it stand? -/
noncomputable def gx_bl (x : Nat) : Nat := Bool.rec (motive := fun _ => Nat)
  (Bool.rec (motive := fun _ => Nat) (Bool.rec (motive := fun _ => Nat) (Nat.sub (Nat.add 2147483648 (Nat.mod x 4294967296)) (Nat.mul (gx_hi (Nat.div (Nat.div x 4294967296) 4)) (Bool.rec (motive := fun _ => Nat) 10 1 (Nat.beq (Nat.mod (Nat.div x 4294967296) 4) 2))))
    (Nat.add (Nat.add 2147483648 (Nat.mod x 4294967296)) (Nat.mul 256 (gx_lo (Nat.div (Nat.div x 4294967296) 4)))) (Nat.beq (Nat.mod (Nat.div x 4294967296) 4) 1))
    (Nat.add (Nat.add 2147483648 (Nat.mod x 4294967296)) (gx_lo (Nat.div (Nat.div x 4294967296) 4))) (Nat.beq (Nat.mod (Nat.div x 4294967296) 4) 0))
  (Nat.mod (Nat.add x 2147483648) 4294967296) (Nat.ble x 4294967295)
noncomputable def gx_bh (x : Nat) : Nat := Bool.rec (motive := fun _ => Nat)
  (Bool.rec (motive := fun _ => Nat) (Bool.rec (motive := fun _ => Nat) (Nat.sub (Nat.add 2147483648 (Nat.mod x 4294967296)) (Nat.mul (gx_lo (Nat.div (Nat.div x 4294967296) 4)) (Bool.rec (motive := fun _ => Nat) 10 1 (Nat.beq (Nat.mod (Nat.div x 4294967296) 4) 2))))
    (Nat.add (Nat.add 2147483648 (Nat.mod x 4294967296)) (Nat.mul 256 (gx_hi (Nat.div (Nat.div x 4294967296) 4)))) (Nat.beq (Nat.mod (Nat.div x 4294967296) 4) 1))
    (Nat.add (Nat.add 2147483648 (Nat.mod x 4294967296)) (gx_hi (Nat.div (Nat.div x 4294967296) 4))) (Nat.beq (Nat.mod (Nat.div x 4294967296) 4) 0))
  (Nat.mod (Nat.add x 2147483648) 4294967296) (Nat.ble x 4294967295)
noncomputable def gx_ok (x : Nat) : Bool := Bool.rec (motive := fun _ => Bool) (Bool.and (Nat.ble (Nat.mod x 4294967296) 1073741823) (Nat.ble (Nat.mod (Nat.div (Nat.div x 4294967296) 4) 8) 4)) true (Nat.ble x 4294967295)
/-- a number from a to b -/
noncomputable def gx_in (x a b : Nat) : Bool := Bool.rec (motive := fun _ => Bool) false (Bool.and (Nat.ble (Nat.add 2147483648 a) (gx_bl x)) (Nat.ble (gx_bh x) (Nat.add 2147483648 b))) (gx_ok x)
theorem gn_lo_le (k : Nat) : gx_lo k ≤ 255 := Nat.and_le_right
theorem gn_hi_le (k : Nat) : gx_hi k ≤ 255 := Nat.and_le_right
theorem gn_tn (x : Int32) : nI x.toBitVec.toNat = x := by
  apply Int32.toBitVec_inj.mp
  show (Int32.ofNat _).toBitVec = _
  rw [Int32.toBitVec_ofNat']
  apply BitVec.eq_of_toNat_eq
  rw [BitVec.toNat_ofNat]
  exact Nat.mod_eq_of_lt x.toBitVec.isLt
theorem gn_bv (n : Nat) : (nI n).toBitVec = BitVec.ofNat 32 n := Int32.toBitVec_ofNat' ..
theorem gn_mod (n : Nat) : nI (n % 4294967296) = nI n := by
  apply Int32.toBitVec_inj.mp
  rw [gn_bv, gn_bv]
  apply BitVec.eq_of_toNat_eq
  simp [BitVec.toNat_ofNat]
theorem gn_eqm {a b : Nat} (h : a % 4294967296 = b % 4294967296) : nI a = nI b := by rw [← gn_mod a, h, gn_mod]
theorem gn_of (n : Nat) : Int32.ofInt (n : Int) = nI n := Int32.ofInt_eq_ofNat ..
theorem gn_add (a b : Int) : Int32.ofInt a + Int32.ofInt b = Int32.ofInt (a + b) := (Int32.ofInt_add ..).symm
theorem gn_sub (a b : Int) : Int32.ofInt a - Int32.ofInt b = Int32.ofInt (a - b) := (Int32.ofInt_sub ..).symm
theorem gn_neg (a : Int) : - Int32.ofInt a = Int32.ofInt (-a) := (Int32.ofInt_neg ..).symm
theorem gn_mul (a b : Int) : Int32.ofInt a * Int32.ofInt b = Int32.ofInt (a * b) := (Int32.ofInt_mul ..).symm
theorem gn_ti {z : Int} (h1 : -2147483648 ≤ z) (h2 : z < 2147483648) : (Int32.ofInt z).toInt = z := by
  rw [Int32.toInt_ofInt]
  show z.bmod (2 ^ 32) = z
  rw [Int.bmod_def]
  split <;> omega
theorem gn_per (z : Int) : Int32.ofInt (z + 4294967296) = Int32.ofInt z := by
  rw [← gn_add]
  show _ + Int32.ofInt 4294967296 = _
  rw [show Int32.ofInt 4294967296 = 0 by decide +kernel, Int32.add_zero]
theorem gn_nat {z : Int} (h : 0 ≤ z) : Int32.ofInt z = nI z.toNat := by
  obtain ⟨n, rfl⟩ := Int.eq_ofNat_of_zero_le h
  exact gn_of n
theorem gn_c {dk : Nat → Nat} {x : Nat} (h : x < 4294967296) : gx_N dk x = nI x := if_pos h
/-- as a whole number -/
theorem gn_int {dk : Nat → Nat} {x : Nat} (h : ¬ x < 4294967296) : gx_N dk x = Int32.ofInt ((x % 4294967296 : Nat) + gx_sc (x / 4294967296 % 4) * (dk (x / 4294967296 / 4) : Int)) := by
  rw [gx_N, if_neg h, ← gn_add, gn_of, gn_mod, ← gn_mul, gn_of]
theorem gn_low {x z : Nat} (h : ¬ x < 4294967296) : ¬ gx_low x z < 4294967296 ∧ gx_low x z / 4294967296 = x / 4294967296 ∧ gx_low x z % 4294967296 = z % 4294967296 := by
  have e : gx_low x z = x / 4294967296 * 4294967296 + z % 4294967296 := rfl
  rw [e]
  omega
theorem gn_lowN {dk : Nat → Nat} {x z : Nat} (h : ¬ x < 4294967296) : gx_N dk (gx_low x z) = nI z + Int32.ofInt (gx_sc (x / 4294967296 % 4)) * nI (dk (x / 4294967296 / 4)) := by
  obtain ⟨h1, h2, h3⟩ := gn_low (z := z) h
  rw [gx_N, if_neg h1, h2, gn_eqm h3]
/-- a value whose range stands is a number in it -/
theorem gn_rng {dk : Nat → Nat} (hd : gx_D dk) {x : Nat} (h : gx_ok x = true) : ∃ z : Int, (gx_bl x : Int) ≤ z + 2147483648 ∧ z + 2147483648 ≤ (gx_bh x : Int) ∧ gx_N dk x = Int32.ofInt z ∧ -2147483648 ≤ z ∧ z < 2147483648 := by
  unfold gx_ok at h
  cases hc : Nat.ble x 4294967295 with
  | true =>
    have hx := gb_ble hc
    have e1 : gx_bl x = (x + 2147483648) % 4294967296 := by unfold gx_bl; rw [hc]; rfl
    have e2 : gx_bh x = (x + 2147483648) % 4294967296 := by unfold gx_bh; rw [hc]; rfl
    rw [gn_c (by omega), e1, e2]
    by_cases hs : x < 2147483648
    · exact ⟨x, by omega, by omega, (gn_of x).symm, by omega, by omega⟩
    · refine ⟨(x : Int) - 4294967296, by omega, by omega, ?_, by omega, by omega⟩
      rw [← gn_per, show (x : Int) - 4294967296 + 4294967296 = x by omega, gn_of]
  | false =>
    rw [hc] at h
    have h : (Nat.ble (x % 4294967296) 1073741823 && Nat.ble (x / 4294967296 / 4 % 8) 4) = true := h
    have hx := gb_nble hc
    simp only [Bool.and_eq_true] at h
    have hw := gb_ble h.1
    have hk := gb_ble h.2
    obtain ⟨d1, d2⟩ := hd.1 (x / 4294967296 / 4) hk
    have l1 := gn_lo_le (x / 4294967296 / 4)
    have l2 := gn_hi_le (x / 4294967296 / 4)
    rw [gn_int (by omega)]
    have hb : gx_bl x = Bool.rec (motive := fun _ => Nat) (Bool.rec (motive := fun _ => Nat) (2147483648 + x % 4294967296 - gx_hi (x / 4294967296 / 4) * (Bool.rec (motive := fun _ => Nat) 10 1 (Nat.beq (x / 4294967296 % 4) 2))) (2147483648 + x % 4294967296 + 256 * gx_lo (x / 4294967296 / 4)) (Nat.beq (x / 4294967296 % 4) 1)) (2147483648 + x % 4294967296 + gx_lo (x / 4294967296 / 4)) (Nat.beq (x / 4294967296 % 4) 0) := by unfold gx_bl; rw [hc]; rfl
    have hh : gx_bh x = Bool.rec (motive := fun _ => Nat) (Bool.rec (motive := fun _ => Nat) (2147483648 + x % 4294967296 - gx_lo (x / 4294967296 / 4) * (Bool.rec (motive := fun _ => Nat) 10 1 (Nat.beq (x / 4294967296 % 4) 2))) (2147483648 + x % 4294967296 + 256 * gx_hi (x / 4294967296 / 4)) (Nat.beq (x / 4294967296 % 4) 1)) (2147483648 + x % 4294967296 + gx_hi (x / 4294967296 / 4)) (Nat.beq (x / 4294967296 % 4) 0) := by unfold gx_bh; rw [hc]; rfl
    generalize dk (x / 4294967296 / 4) = d at d1 d2 ⊢
    generalize gx_lo (x / 4294967296 / 4) = lo at *
    generalize gx_hi (x / 4294967296 / 4) = hi at *
    generalize x % 4294967296 = w at *
    have hc4 : x / 4294967296 % 4 < 4 := Nat.mod_lt _ (by decide)
    generalize x / 4294967296 % 4 = cl at *
    have hcs : cl = 0 ∨ cl = 1 ∨ cl = 2 ∨ cl = 3 := by omega
    rcases hcs with rfl | rfl | rfl | rfl
    · have hb : gx_bl x = 2147483648 + w + lo := hb
      have hh : gx_bh x = 2147483648 + w + hi := hh
      rw [show gx_sc 0 = 1 from rfl, hb, hh]
      exact ⟨_, by omega, by omega, rfl, by omega, by omega⟩
    · have hb : gx_bl x = 2147483648 + w + 256 * lo := hb
      have hh : gx_bh x = 2147483648 + w + 256 * hi := hh
      rw [show gx_sc 1 = 256 from rfl, hb, hh]
      exact ⟨_, by omega, by omega, rfl, by omega, by omega⟩
    · have hb : gx_bl x = 2147483648 + w - hi * 1 := hb
      have hh : gx_bh x = 2147483648 + w - lo * 1 := hh
      rw [show gx_sc 2 = -1 from rfl, hb, hh]
      exact ⟨_, by omega, by omega, rfl, by omega, by omega⟩
    · have hb : gx_bl x = 2147483648 + w - hi * 10 := hb
      have hh : gx_bh x = 2147483648 + w - lo * 10 := hh
      rw [show gx_sc 3 = -10 from rfl, hb, hh]
      exact ⟨_, by omega, by omega, rfl, by omega, by omega⟩
theorem gn_in {dk : Nat → Nat} (hd : gx_D dk) {x a b : Nat} (h : gx_in x a b = true) : ∃ z : Nat, a ≤ z ∧ z ≤ b ∧ gx_N dk x = nI z ∧ z < 2147483648 := by
  obtain ⟨h1, h2⟩ := gb_t h
  simp only [Bool.and_eq_true] at h2
  have h3 : 2147483648 + a ≤ gx_bl x := gb_ble h2.1
  have h4 : gx_bh x ≤ 2147483648 + b := gb_ble h2.2
  obtain ⟨z, z1, z2, z3, z4, z5⟩ := gn_rng hd h1
  refine ⟨z.toNat, by omega, by omega, by rw [z3, gn_nat (by omega)], by omega⟩
end
section
/-! OPERATIONS OF THE SMALL MACHINE: each goes on with what it has made; false where it is stuck. -/
noncomputable def gx_cc (x y : Nat) : Bool := Nat.ble (Nat.lor x y) 4294967295
noncomputable def gx_add (x y : Nat) (k : Nat → Bool) : Bool := Bool.rec (motive := fun _ => Bool)
  (Bool.rec (motive := fun _ => Bool) (Bool.rec (motive := fun _ => Bool) false (k (gx_low y (Nat.add x y))) (Nat.ble x 4294967295)) (k (gx_low x (Nat.add x y))) (Nat.ble y 4294967295))
  (k (Nat.mod (Nat.add x y) 4294967296)) (gx_cc x y)
noncomputable def gx_sub (x y : Nat) (k : Nat → Bool) : Bool := Bool.rec (motive := fun _ => Bool)
  (Bool.rec (motive := fun _ => Bool)
    (Bool.rec (motive := fun _ => Bool)
      (Bool.rec (motive := fun _ => Bool) false (k (Nat.add y 25769803776)) (Bool.and (Nat.beq x (Nat.add y 21474836480)) (Bool.and (Nat.beq (Nat.mod y 4294967296) 0) (Nat.beq (Nat.mod (Nat.div y 4294967296) 32) 10))))
      (k (Nat.add (Nat.mul (Nat.sub (Nat.div y 4294967296) 2) 4294967296) (Nat.mod (Nat.sub (Nat.add x 4294967296) (Nat.mod y 4294967296)) 4294967296)))
      (Bool.and (Nat.ble x 4294967295) (Bool.and (Nat.beq (Nat.mod (Nat.div y 4294967296) 4) 2) (Nat.ble 17179869184 y))))
    (k (gx_low x (Nat.sub (Nat.add x 4294967296) y))) (Nat.ble y 4294967295))
  (k (Nat.mod (Nat.sub (Nat.add x 4294967296) y) 4294967296)) (gx_cc x y)
noncomputable def gx_neg (x : Nat) (k : Nat → Bool) : Bool := Bool.rec (motive := fun _ => Bool)
  (Bool.rec (motive := fun _ => Bool) false (k (Nat.add (Nat.mul (Nat.add (Nat.div x 4294967296) 2) 4294967296) (Nat.mod (Nat.sub 4294967296 (Nat.mod x 4294967296)) 4294967296))) (Nat.beq (Nat.mod (Nat.div x 4294967296) 4) 0))
  (k (Nat.mod (Nat.sub 4294967296 x) 4294967296)) (Nat.ble x 4294967295)
noncomputable def gx_mul (x y : Nat) (k : Nat → Bool) : Bool := Bool.rec (motive := fun _ => Bool)
  (Bool.rec (motive := fun _ => Bool) false (k (Nat.add x 4294967296)) (Bool.and (Nat.beq y 10) (Bool.and (Nat.beq (Nat.mod x 4294967296) 0) (Nat.beq (Nat.mod (Nat.div x 4294967296) 4) 2))))
  (k (Nat.mod (Nat.mul x y) 4294967296)) (gx_cc x y)
noncomputable def gx_div (x y : Nat) (k : Nat → Bool) : Bool := Bool.rec (motive := fun _ => Bool)
  (Bool.rec (motive := fun _ => Bool) false
    (Bool.rec (motive := fun _ => Bool) (Bool.rec (motive := fun _ => Bool) false (k (Nat.add x 17179869184)) (Nat.beq (Nat.mod (Nat.div x 4294967296) 32) 10)) (k 0) (Nat.beq (Nat.mod (Nat.div x 4294967296) 32) 6))
    (Bool.and (Nat.beq y 10) (Bool.and (Nat.ble 4294967296 x) (Nat.beq (Nat.mod x 4294967296) 0))))
  (k (Nat.div x y)) (Bool.and (Nat.ble (Nat.lor x y) 2147483647) (Nat.ble 1 y))
noncomputable def gx_rem (x y : Nat) (k : Nat → Bool) : Bool := Bool.rec (motive := fun _ => Bool) false (k (Nat.mod x y)) (Bool.and (Nat.ble (Nat.lor x y) 2147483647) (Nat.ble 1 y))
noncomputable def gx_and (x y : Nat) (k : Nat → Bool) : Bool := Bool.rec (motive := fun _ => Bool)
  (Bool.rec (motive := fun _ => Bool) false (k x) (Bool.and (Nat.beq y 255) (gx_in x 0 255))) (k (Nat.land x y)) (gx_cc x y)
noncomputable def gx_or (x y : Nat) (k : Nat → Bool) : Bool := Bool.rec (motive := fun _ => Bool)
  (Bool.rec (motive := fun _ => Bool)
    (Bool.rec (motive := fun _ => Bool) false (k (gx_low y (Nat.add x y))) (Bool.and (Nat.ble x 4294967295) (Bool.and (Nat.beq (Nat.mod x 65536) 0) (Bool.and (gx_in y 0 65535) (Nat.ble 4294967296 y)))))
    (k x) (Nat.beq y 0))
  (k (Nat.lor x y)) (gx_cc x y)
noncomputable def gx_xor (x y : Nat) (k : Nat → Bool) : Bool := Bool.rec (motive := fun _ => Bool) false (k (Nat.xor x y)) (gx_cc x y)
noncomputable def gx_shl (x y : Nat) (k : Nat → Bool) : Bool := Bool.rec (motive := fun _ => Bool)
  (Bool.rec (motive := fun _ => Bool) false (k (Nat.add (Nat.mul (Nat.add (Nat.div x 4294967296) 1) 4294967296) (Nat.mod (Nat.mul (Nat.mod x 4294967296) 256) 4294967296))) (Bool.and (Nat.ble 4294967296 x) (Bool.and (Nat.beq y 8) (Nat.beq (Nat.mod (Nat.div x 4294967296) 4) 0))))
  (k (Nat.mod (Nat.shiftLeft x y) 4294967296)) (Bool.and (Nat.ble x 4294967295) (Nat.ble y 31))
noncomputable def gx_shr (x y : Nat) (k : Nat → Bool) : Bool := Bool.rec (motive := fun _ => Bool)
  (Bool.rec (motive := fun _ => Bool) false (k (Nat.div (Nat.sub (gx_bl x) 2147483648) 65536))
    (Bool.and (gx_ok x) (Bool.and (Nat.beq y 16) (Bool.and (Nat.ble 2147483648 (gx_bl x)) (Nat.beq (Nat.div (Nat.sub (gx_bl x) 2147483648) 65536) (Nat.div (Nat.sub (gx_bh x) 2147483648) 65536))))))
  (k (Nat.shiftRight x y)) (Bool.and (Nat.ble x 2147483647) (Nat.ble y 31))
noncomputable def gx_ushr (x y : Nat) (k : Nat → Bool) : Bool := Bool.rec (motive := fun _ => Bool)
  (Bool.rec (motive := fun _ => Bool) false (k 0) (Bool.and (Nat.beq y 8) (gx_in x 0 255))) (k (Nat.shiftRight x y)) (Bool.and (Nat.ble x 4294967295) (Nat.ble y 31))
noncomputable def gx_i2c (x : Nat) (k : Nat → Bool) : Bool := Bool.rec (motive := fun _ => Bool) (Bool.rec (motive := fun _ => Bool) false (k x) (gx_in x 0 65535)) (k (Nat.mod x 65536)) (Nat.ble x 4294967295)
noncomputable def gx_i2b (x : Nat) (k : Nat → Bool) : Bool := Bool.rec (motive := fun _ => Bool) (Bool.rec (motive := fun _ => Bool) false (k x) (gx_in x 0 127)) (k x) (Nat.ble x 127)
/-- x < y -/
noncomputable def gx_lt (x y : Nat) (kt kf : Bool) : Bool := Bool.rec (motive := fun _ => Bool)
  (Bool.rec (motive := fun _ => Bool) false (Bool.rec (motive := fun _ => Bool) (Bool.rec (motive := fun _ => Bool) false kf (Nat.ble (gx_bh y) (gx_bl x))) kt (Nat.ble (Nat.succ (gx_bh x)) (gx_bl y))) (Bool.and (gx_ok x) (gx_ok y)))
  (Bool.rec (motive := fun _ => Bool) kf kt (Nat.ble (Nat.succ x) y)) (Nat.ble (Nat.lor x y) 2147483647)
/-- x = y -/
noncomputable def gx_eq (x y : Nat) (kt kf : Bool) : Bool := Bool.rec (motive := fun _ => Bool)
  (Bool.rec (motive := fun _ => Bool) (Bool.rec (motive := fun _ => Bool) false kf (Bool.and (Bool.and (gx_ok x) (gx_ok y)) (Bool.or (Nat.ble (Nat.succ (gx_bh x)) (gx_bl y)) (Nat.ble (Nat.succ (gx_bh y)) (gx_bl x))))) kt (Nat.beq x y))
  (Bool.rec (motive := fun _ => Bool) kf kt (Nat.beq x y)) (gx_cc x y)
theorem go_cc {x y : Nat} (h : gx_cc x y = true) : x < 4294967296 ∧ y < 4294967296 := gb_lor (n := 32) h
theorem go_cc3 {x y : Nat} (h : Nat.ble (Nat.lor x y) 2147483647 = true) : x < 2147483648 ∧ y < 2147483648 := gb_lor (n := 31) h
theorem go_and {a b : Bool} (h : Bool.and a b = true) : a = true ∧ b = true := by cases a <;> cases b <;> simp_all
section OPN
variable {dk : Nat → Nat} {x y : Nat} {k : Nat → Bool} {kt kf : Bool}
theorem go_add (h : gx_add x y k = true) : ∃ z, k z = true ∧ gx_N dk z = gx_N dk x + gx_N dk y := by
  rcases gb_true h with ⟨hc, h⟩ | ⟨hc, h⟩
  · obtain ⟨h1, h2⟩ := go_cc hc
    refine ⟨_, h, ?_⟩
    rw [gn_c h1, gn_c h2]
    show gx_N dk ((x + y) % 4294967296) = _
    rw [gn_c (Nat.mod_lt _ (by decide)), gn_mod, nI_add]
  · rcases gb_true h with ⟨hc2, h⟩ | ⟨hc2, h⟩
    · have h2 := gb_ble hc2
      have h1 : ¬ x < 4294967296 := fun h1 => by
        have : x ||| y < 2 ^ 32 := Nat.or_lt_two_pow h1 (by omega)
        have h9 : 4294967295 < x ||| y := gb_nble hc
        omega
      refine ⟨_, h, ?_⟩
      rw [gn_lowN h1, gn_c (show y < 4294967296 by omega), gx_N, if_neg h1]
      show nI (x + y) + _ = _
      rw [← nI_add, Int32.add_assoc, Int32.add_comm (nI y), Int32.add_assoc]
    · obtain ⟨hc3, h⟩ := gb_t h
      have h1 := gb_ble hc3
      have h2 := gb_nble hc2
      refine ⟨_, h, ?_⟩
      rw [gn_lowN (show ¬ y < 4294967296 by omega), gn_c (show x < 4294967296 by omega), gx_N, if_neg (show ¬ y < 4294967296 by omega)]
      show nI (x + y) + _ = _
      rw [← nI_add, Int32.add_assoc]
theorem gn_sub' {x y : Nat} (hy : y ≤ x + 4294967296) : nI (x + 4294967296 - y) = nI x - nI y := by
  rw [← gn_of, ← gn_of, ← gn_of, gn_sub, show ((x + 4294967296 - y : Nat) : Int) = ((x : Int) - y) + 4294967296 by omega, gn_per]
theorem gn_eta (dk : Nat → Nat) {x : Nat} (h : ¬ x < 4294967296) : gx_N dk x = nI (x % 4294967296) + Int32.ofInt (gx_sc (x / 4294967296 % 4)) * nI (dk (x / 4294967296 / 4)) := by
  rw [gx_N, if_neg h, gn_mod]
theorem go_sub (hd : gx_D dk) (h : gx_sub x y k = true) : ∃ z, k z = true ∧ gx_N dk z = gx_N dk x - gx_N dk y := by
  rcases gb_true h with ⟨hc, h⟩ | ⟨hc, h⟩
  · obtain ⟨h1, h2⟩ := go_cc hc
    refine ⟨_, h, ?_⟩
    rw [gn_c h1, gn_c h2]
    show gx_N dk ((x + 4294967296 - y) % 4294967296) = _
    rw [gn_c (Nat.mod_lt _ (by decide)), gn_mod, gn_sub' (by omega)]
  · rcases gb_true h with ⟨hc2, h⟩ | ⟨hc2, h⟩
    · have h2 := gb_ble hc2
      have h1 : ¬ x < 4294967296 := fun h1 => by
        have : x ||| y < 2 ^ 32 := Nat.or_lt_two_pow h1 (by omega)
        have h9 : 4294967295 < x ||| y := gb_nble hc
        omega
      refine ⟨_, h, ?_⟩
      rw [gn_lowN h1, gn_c (show y < 4294967296 by omega), gx_N, if_neg h1]
      show nI (x + 4294967296 - y) + _ = _
      rw [gn_sub' (by omega), Int32.sub_eq_add_neg, Int32.sub_eq_add_neg, Int32.add_assoc, Int32.add_comm (-nI y), Int32.add_assoc]
    · have h2 := gb_nble hc2
      rcases gb_true h with ⟨hc3, h⟩ | ⟨hc3, h⟩
      · obtain ⟨c1, c2⟩ := go_and hc3
        obtain ⟨c2, c3⟩ := go_and c2
        have c1 := gb_ble c1
        have c2 : y / 4294967296 % 4 = 2 := gb_beq c2
        have c3 := gb_ble c3
        refine ⟨_, h, ?_⟩
        have e : Nat.add (Nat.mul (Nat.sub (Nat.div y 4294967296) 2) 4294967296) (Nat.mod (Nat.sub (Nat.add x 4294967296) (Nat.mod y 4294967296)) 4294967296) = (y / 4294967296 - 2) * 4294967296 + (x + 4294967296 - y % 4294967296) % 4294967296 := rfl
        have hne : ¬ (y / 4294967296 - 2) * 4294967296 + (x + 4294967296 - y % 4294967296) % 4294967296 < 4294967296 := by omega
        rw [e, gn_c (show x < 4294967296 by omega), gn_eta dk (show ¬ y < 4294967296 by omega), c2, gn_eta dk hne]
        have e1 : ((y / 4294967296 - 2) * 4294967296 + (x + 4294967296 - y % 4294967296) % 4294967296) % 4294967296 = (x + 4294967296 - y % 4294967296) % 4294967296 := by omega
        have e2 : ((y / 4294967296 - 2) * 4294967296 + (x + 4294967296 - y % 4294967296) % 4294967296) / 4294967296 = y / 4294967296 - 2 := by omega
        rw [e1, e2, gn_mod, gn_sub' (by omega), show (y / 4294967296 - 2) % 4 = 0 by omega, show (y / 4294967296 - 2) / 4 = y / 4294967296 / 4 by omega]
        generalize nI (dk (y / 4294967296 / 4)) = d
        generalize nI (y % 4294967296) = w
        generalize nI x = v
        rw [show Int32.ofInt (gx_sc 0) = 1 from rfl, show Int32.ofInt (gx_sc 2) = -1 from rfl, Int32.one_mul, Int32.neg_mul, Int32.one_mul, Int32.sub_eq_add_neg, Int32.sub_eq_add_neg, Int32.neg_add, Int32.sub_eq_add_neg, Int32.neg_neg, Int32.add_assoc]
      · obtain ⟨hc4, h⟩ := gb_t h
        obtain ⟨c1, c2⟩ := go_and hc4
        obtain ⟨c2, c3⟩ := go_and c2
        have c1 : x = y + 21474836480 := gb_beq c1
        have c2 : y % 4294967296 = 0 := gb_beq c2
        have c3 : y / 4294967296 % 32 = 10 := gb_beq c3
        refine ⟨_, h, ?_⟩
        show gx_N dk (y + 25769803776) = _
        obtain ⟨d1, d2⟩ := hd.2 (y / 4294967296 / 4) (by omega)
        rw [gn_int (show ¬ y + 25769803776 < 4294967296 by omega), gn_int (show ¬ x < 4294967296 by omega), gn_int (show ¬ y < 4294967296 by omega), gn_sub]
        rw [show (y + 25769803776) % 4294967296 = 0 by omega, show x % 4294967296 = 0 by omega, c2, show (y + 25769803776) / 4294967296 % 4 = 0 by omega, show x / 4294967296 % 4 = 3 by omega, show y / 4294967296 % 4 = 2 by omega,
          show (y + 25769803776) / 4294967296 / 4 = y / 4294967296 / 4 + 2 by omega, show x / 4294967296 / 4 = y / 4294967296 / 4 + 1 by omega, d1, d2, show gx_sc 0 = 1 from rfl, show gx_sc 3 = -10 from rfl, show gx_sc 2 = -1 from rfl]
        congr 1
        omega
theorem go_neg (h : gx_neg x k = true) : ∃ z, k z = true ∧ gx_N dk z = - gx_N dk x := by
  have key : ∀ w : Nat, w ≤ 4294967296 → nI (4294967296 - w) = - nI w := fun w hw => by
    have := gn_sub' (x := 0) (y := w) (by omega)
    rw [show 0 + 4294967296 - w = 4294967296 - w by omega] at this
    rw [this, nI_0, Int32.zero_sub]
  rcases gb_true h with ⟨hc, h⟩ | ⟨hc, h⟩
  · have h1 := gb_ble hc
    refine ⟨_, h, ?_⟩
    show gx_N dk ((4294967296 - x) % 4294967296) = _
    rw [gn_c (Nat.mod_lt _ (by decide)), gn_mod, gn_c (show x < 4294967296 by omega), key x (by omega)]
  · have h1 := gb_nble hc
    obtain ⟨hc2, h⟩ := gb_t h
    have c2 : x / 4294967296 % 4 = 0 := gb_beq hc2
    refine ⟨_, h, ?_⟩
    show gx_N dk ((x / 4294967296 + 2) * 4294967296 + (4294967296 - x % 4294967296) % 4294967296) = _
    have hne : ¬ (x / 4294967296 + 2) * 4294967296 + (4294967296 - x % 4294967296) % 4294967296 < 4294967296 := by omega
    have e1 : ((x / 4294967296 + 2) * 4294967296 + (4294967296 - x % 4294967296) % 4294967296) % 4294967296 = (4294967296 - x % 4294967296) % 4294967296 := by omega
    have e2 : ((x / 4294967296 + 2) * 4294967296 + (4294967296 - x % 4294967296) % 4294967296) / 4294967296 = x / 4294967296 + 2 := by omega
    rw [gn_eta dk hne, gn_eta dk (show ¬ x < 4294967296 by omega), e1, e2, c2, gn_mod, key _ (by omega), show (x / 4294967296 + 2) % 4 = 2 by omega, show (x / 4294967296 + 2) / 4 = x / 4294967296 / 4 by omega]
    rw [show Int32.ofInt (gx_sc 0) = 1 from rfl, show Int32.ofInt (gx_sc 2) = -1 from rfl, Int32.one_mul, Int32.neg_mul, Int32.one_mul, Int32.neg_add, Int32.sub_eq_add_neg]
theorem go_mul (h : gx_mul x y k = true) : ∃ z, k z = true ∧ gx_N dk z = gx_N dk x * gx_N dk y := by
  rcases gb_true h with ⟨hc, h⟩ | ⟨hc, h⟩
  · obtain ⟨h1, h2⟩ := go_cc hc
    refine ⟨_, h, ?_⟩
    rw [gn_c h1, gn_c h2]
    show gx_N dk ((x * y) % 4294967296) = _
    rw [gn_c (Nat.mod_lt _ (by decide)), gn_mod, pk_mul]
  · obtain ⟨hc, h⟩ := gb_t h
    obtain ⟨c1, c2⟩ := go_and hc
    obtain ⟨c2, c3⟩ := go_and c2
    have c1 : y = 10 := gb_beq c1
    have c2 : x % 4294967296 = 0 := gb_beq c2
    have c3 : x / 4294967296 % 4 = 2 := gb_beq c3
    refine ⟨_, h, ?_⟩
    show gx_N dk (x + 4294967296) = _
    subst c1
    rw [gn_int (show ¬ x + 4294967296 < 4294967296 by omega), gn_int (show ¬ x < 4294967296 by omega), gn_c (show 10 < 4294967296 by decide), ← gn_of 10, gn_mul]
    rw [show (x + 4294967296) % 4294967296 = 0 by omega, c2, show (x + 4294967296) / 4294967296 % 4 = 3 by omega, c3, show (x + 4294967296) / 4294967296 / 4 = x / 4294967296 / 4 by omega, show gx_sc 3 = -10 from rfl, show gx_sc 2 = -1 from rfl]
    congr 1
    omega
theorem gn_and (a b : Nat) : nI a &&& nI b = nI (a &&& b) := by
  apply Int32.toBitVec_inj.mp
  rw [Int32.toBitVec_and, gn_bv, gn_bv, gn_bv]
  apply BitVec.eq_of_toNat_eq
  rw [BitVec.toNat_and, BitVec.toNat_ofNat, BitVec.toNat_ofNat, BitVec.toNat_ofNat, Nat.and_mod_two_pow]
theorem gn_or (a b : Nat) : nI a ||| nI b = nI (a ||| b) := by
  apply Int32.toBitVec_inj.mp
  rw [Int32.toBitVec_or, gn_bv, gn_bv, gn_bv]
  apply BitVec.eq_of_toNat_eq
  rw [BitVec.toNat_or, BitVec.toNat_ofNat, BitVec.toNat_ofNat, BitVec.toNat_ofNat, Nat.or_mod_two_pow]
theorem gn_xor (a b : Nat) : nI a ^^^ nI b = nI (a ^^^ b) := by
  apply Int32.toBitVec_inj.mp
  rw [Int32.toBitVec_xor, gn_bv, gn_bv, gn_bv]
  apply BitVec.eq_of_toNat_eq
  rw [BitVec.toNat_xor, BitVec.toNat_ofNat, BitVec.toNat_ofNat, BitVec.toNat_ofNat, Nat.xor_mod_two_pow]
theorem go_and2 (hd : gx_D dk) (h : gx_and x y k = true) : ∃ z, k z = true ∧ gx_N dk z = gx_N dk x &&& gx_N dk y := by
  rcases gb_true h with ⟨hc, h⟩ | ⟨hc, h⟩
  · obtain ⟨h1, h2⟩ := go_cc hc
    refine ⟨_, h, ?_⟩
    show gx_N dk (x &&& y) = _
    rw [gn_c h1, gn_c h2, gn_and, gn_c (Nat.lt_of_le_of_lt Nat.and_le_left h1)]
  · obtain ⟨hc, h⟩ := gb_t h
    obtain ⟨c1, c2⟩ := go_and hc
    have c1 : y = 255 := gb_beq c1
    obtain ⟨z, z1, z2, z3, -⟩ := gn_in hd c2
    refine ⟨_, h, ?_⟩
    subst c1
    rw [z3, gn_c (show 255 < 4294967296 by decide), gn_and, show z &&& 255 = z % 2 ^ 8 from Nat.and_two_pow_sub_one_eq_mod _ 8, Nat.mod_eq_of_lt (by omega)]
theorem go_or (hd : gx_D dk) (h : gx_or x y k = true) : ∃ z, k z = true ∧ gx_N dk z = gx_N dk x ||| gx_N dk y := by
  rcases gb_true h with ⟨hc, h⟩ | ⟨hc, h⟩
  · obtain ⟨h1, h2⟩ := go_cc hc
    refine ⟨_, h, ?_⟩
    show gx_N dk (x ||| y) = _
    rw [gn_c h1, gn_c h2, gn_or, gn_c (Nat.or_lt_two_pow (n := 32) h1 h2)]
  · rcases gb_true h with ⟨hc, h⟩ | ⟨hc, h⟩
    · have hy : y = 0 := gb_beq hc
      subst hy
      refine ⟨_, h, ?_⟩
      rw [gn_c (show 0 < 4294967296 by decide), nI_0, Int32.or_zero]
    · obtain ⟨hc, h⟩ := gb_t h
      obtain ⟨c1, c2⟩ := go_and hc
      obtain ⟨c2, c3⟩ := go_and c2
      obtain ⟨c3, c4⟩ := go_and c3
      have c1 := gb_ble c1
      have c2 : x % 65536 = 0 := gb_beq c2
      have c4 := gb_ble c4
      obtain ⟨z, z1, z2, z3, -⟩ := gn_in hd c3
      refine ⟨_, h, ?_⟩
      have hy : ¬ y < 4294967296 := by omega
      have z4 := z3
      rw [gx_N, if_neg hy] at z4
      rw [gn_lowN hy, z3, gn_c (show x < 4294967296 by omega), gn_or]
      show nI (x + y) + _ = _
      rw [← nI_add, Int32.add_assoc, z4, nI_add]
      congr 1
      obtain ⟨c, rfl⟩ : ∃ c, x = 2 ^ 16 * c := ⟨x / 65536, by omega⟩
      rw [Nat.two_pow_add_eq_or_of_lt (by omega : z < 2 ^ 16)]
theorem go_xor (h : gx_xor x y k = true) : ∃ z, k z = true ∧ gx_N dk z = gx_N dk x ^^^ gx_N dk y := by
  obtain ⟨hc, h⟩ := gb_t h
  obtain ⟨h1, h2⟩ := go_cc hc
  refine ⟨_, h, ?_⟩
  show gx_N dk (x ^^^ y) = _
  rw [gn_c h1, gn_c h2, gn_xor, gn_c (Nat.xor_lt_two_pow (n := 32) h1 h2)]
theorem go_i2c (hd : gx_D dk) (h : gx_i2c x k = true) : ∃ z, k z = true ∧ gx_N dk z = ((gx_N dk x).toUInt32 % 65536).toInt32 := by
  rcases gb_true h with ⟨hc, h⟩ | ⟨hc, h⟩
  · have h1 := gb_ble hc
    refine ⟨_, h, ?_⟩
    show gx_N dk (x % 65536) = _
    rw [gn_c (show x % 65536 < 4294967296 by omega), gn_c (show x < 4294967296 by omega)]
    refine Eq.trans ?_ (pk_char (nI x)).symm
    rw [pk_tn (by omega)]
  · obtain ⟨hc, h⟩ := gb_t h
    obtain ⟨z, z1, z2, z3, -⟩ := gn_in hd hc
    refine ⟨_, h, ?_⟩
    rw [z3]
    refine Eq.trans ?_ (pk_char (nI z)).symm
    rw [pk_tn (by omega), Nat.mod_eq_of_lt (by omega)]
theorem go_i2b (hd : gx_D dk) (h : gx_i2b x k = true) : ∃ z, k z = true ∧ gx_N dk z = (gx_N dk x).toInt8.toInt32 := by
  have key : ∀ n : Fin 128, (nI n.val).toInt8.toInt32 = nI n.val := by decide +kernel
  rcases gb_true h with ⟨hc, h⟩ | ⟨hc, h⟩
  · have h1 := gb_ble hc
    refine ⟨_, h, ?_⟩
    rw [gn_c (show x < 4294967296 by omega)]
    exact (key ⟨x, by omega⟩).symm
  · obtain ⟨hc, h⟩ := gb_t h
    obtain ⟨z, z1, z2, z3, -⟩ := gn_in hd hc
    refine ⟨_, h, ?_⟩
    rw [z3]
    exact (key ⟨z, by omega⟩).symm
theorem go_lt (hd : gx_D dk) (h : gx_lt x y kt kf = true) : (gx_N dk x < gx_N dk y ∧ kt = true) ∨ (¬ gx_N dk x < gx_N dk y ∧ kf = true) := by
  rcases gb_true h with ⟨hc, h⟩ | ⟨hc, h⟩
  · obtain ⟨h1, h2⟩ := go_cc3 hc
    rw [gn_c (show x < 4294967296 by omega), gn_c (show y < 4294967296 by omega)]
    have e := nI_ltI h1 h2
    rcases gb_true h with ⟨hc, h⟩ | ⟨hc, h⟩
    · exact Or.inl ⟨e.mpr (gb_ble hc), h⟩
    · have := gb_nble hc
      exact Or.inr ⟨fun q => absurd (e.mp q) (by omega), h⟩
  · obtain ⟨hc, h⟩ := gb_t h
    obtain ⟨c1, c2⟩ := go_and hc
    obtain ⟨u, u1, u2, u3, u4, u5⟩ := gn_rng hd c1
    obtain ⟨v, v1, v2, v3, v4, v5⟩ := gn_rng hd c2
    rw [u3, v3, Int32.lt_iff_toInt_lt, gn_ti u4 u5, gn_ti v4 v5]
    rcases gb_true h with ⟨hc, h⟩ | ⟨hc, h⟩
    · have := gb_ble hc
      exact Or.inl ⟨by omega, h⟩
    · obtain ⟨hc, h⟩ := gb_t h
      have := gb_ble hc
      exact Or.inr ⟨by omega, h⟩
theorem gn_inj {a b : Nat} (h1 : a < 4294967296) (h2 : b < 4294967296) (e : nI a = nI b) : a = b := by
  have e := congrArg Int32.toBitVec e
  rw [gn_bv, gn_bv] at e
  have e := congrArg BitVec.toNat e
  rw [BitVec.toNat_ofNat, BitVec.toNat_ofNat] at e
  omega
theorem go_eq (hd : gx_D dk) (h : gx_eq x y kt kf = true) : (gx_N dk x = gx_N dk y ∧ kt = true) ∨ (¬ gx_N dk x = gx_N dk y ∧ kf = true) := by
  rcases gb_true h with ⟨hc, h⟩ | ⟨hc, h⟩
  · obtain ⟨h1, h2⟩ := go_cc hc
    rw [gn_c h1, gn_c h2]
    rcases gb_true h with ⟨hc, h⟩ | ⟨hc, h⟩
    · exact Or.inl ⟨by rw [gb_beq hc], h⟩
    · exact Or.inr ⟨fun q => gb_nbeq hc (gn_inj h1 h2 q), h⟩
  · rcases gb_true h with ⟨hc, h⟩ | ⟨hc, h⟩
    · exact Or.inl ⟨by rw [gb_beq hc], h⟩
    · obtain ⟨hc, h⟩ := gb_t h
      obtain ⟨c1, c3⟩ := go_and hc
      obtain ⟨c1, c2⟩ := go_and c1
      obtain ⟨u, u1, u2, u3, u4, u5⟩ := gn_rng hd c1
      obtain ⟨v, v1, v2, v3, v4, v5⟩ := gn_rng hd c2
      refine Or.inr ⟨fun q => ?_, h⟩
      rw [u3, v3] at q
      have q := congrArg Int32.toInt q
      rw [gn_ti u4 u5, gn_ti v4 v5] at q
      have c3 : (Nat.ble (Nat.succ (gx_bh x)) (gx_bl y) || Nat.ble (Nat.succ (gx_bh y)) (gx_bl x)) = true := c3
      simp only [Bool.or_eq_true] at c3
      rcases c3 with c3 | c3
      · have := gb_ble c3; omega
      · have := gb_ble c3; omega
end OPN
end
section
/-! SHIFTS, DIVISIONS, LONGS. -/
noncomputable def gx_lsh (x y : Nat) (k : Nat → Bool) : Bool := Bool.rec (motive := fun _ => Bool) false (k (Nat.mod (Nat.shiftLeft x y) 18446744073709551616)) (Nat.ble y 63)
noncomputable def gx_lus (x y : Nat) (k : Nat → Bool) : Bool := Bool.rec (motive := fun _ => Bool) false (k (Nat.shiftRight (Nat.mod x 18446744073709551616) y)) (Nat.ble y 63)
noncomputable def gx_lcm (x y : Nat) (k : Nat → Bool) : Bool := Bool.rec (motive := fun _ => Bool) false (k (Bool.rec (motive := fun _ => Nat) (Bool.rec (motive := fun _ => Nat) 1 4294967295 (Nat.ble (Nat.succ x) y)) 0 (Nat.beq x y))) (Nat.ble (Nat.lor x y) 9223372036854775807)
noncomputable def gx_lsu (x y : Nat) : Nat := Nat.mod (Nat.sub (Nat.add x 18446744073709551616) (Nat.mod y 18446744073709551616)) 18446744073709551616
theorem gl_bv (n : Nat) : (lN n).toBitVec = BitVec.ofNat 64 n := Int64.toBitVec_ofNat' ..
theorem gl_mod (n : Nat) : lN (n % 18446744073709551616) = lN n := by
  apply Int64.toBitVec_inj.mp
  rw [gl_bv, gl_bv]
  apply BitVec.eq_of_toNat_eq
  simp [BitVec.toNat_ofNat]
theorem gl_and (a b : Nat) : lN a &&& lN b = lN (a &&& b) := by
  apply Int64.toBitVec_inj.mp
  rw [Int64.toBitVec_and, gl_bv, gl_bv, gl_bv]
  apply BitVec.eq_of_toNat_eq
  rw [BitVec.toNat_and, BitVec.toNat_ofNat, BitVec.toNat_ofNat, BitVec.toNat_ofNat, Nat.and_mod_two_pow]
theorem gl_or (a b : Nat) : lN a ||| lN b = lN (a ||| b) := by
  apply Int64.toBitVec_inj.mp
  rw [Int64.toBitVec_or, gl_bv, gl_bv, gl_bv]
  apply BitVec.eq_of_toNat_eq
  rw [BitVec.toNat_or, BitVec.toNat_ofNat, BitVec.toNat_ofNat, BitVec.toNat_ofNat, Nat.or_mod_two_pow]
theorem gl_xor (a b : Nat) : lN a ^^^ lN b = lN (a ^^^ b) := by
  apply Int64.toBitVec_inj.mp
  rw [Int64.toBitVec_xor, gl_bv, gl_bv, gl_bv]
  apply BitVec.eq_of_toNat_eq
  rw [BitVec.toNat_xor, BitVec.toNat_ofNat, BitVec.toNat_ofNat, BitVec.toNat_ofNat, Nat.xor_mod_two_pow]
theorem gl_sub (a b : Nat) : lN a - lN b = lN (gx_lsu a b) := by
  apply Int64.toBitVec_inj.mp
  rw [Int64.toBitVec_sub, gl_bv, gl_bv, gl_bv]
  apply BitVec.eq_of_toNat_eq
  rw [BitVec.toNat_sub, BitVec.toNat_ofNat, BitVec.toNat_ofNat, BitVec.toNat_ofNat]
  show _ = (a + 18446744073709551616 - b % 18446744073709551616) % 18446744073709551616 % 2 ^ 64
  omega
theorem gl_i (a : Nat) : (lN a).toInt32 = nI (a % 4294967296) := by rw [lN_i, gn_mod]
section OPM
variable {dk : Nat → Nat} {x y : Nat} {k : Nat → Bool} {kt kf : Bool}
theorem gl_sh32 : ∀ y : Fin 32, ((nI y.val &&& 31).toBitVec.smod 32).toNat = y.val := by decide +kernel
theorem gl_us32 : ∀ y : Fin 32, (((nI y.val).toUInt32 &&& Int32.toUInt32 31).toBitVec % 32).toNat = y.val := by decide +kernel
set_option maxRecDepth 20000 in
theorem go_shl (h : gx_shl x y k = true) : ∃ z, k z = true ∧ gx_N dk z = gx_N dk x <<< (gx_N dk y &&& 31) := by
  rcases gb_true h with ⟨hc, h⟩ | ⟨hc, h⟩
  · obtain ⟨c1, c2⟩ := go_and hc
    have c1 := gb_ble c1
    have c2 := gb_ble c2
    refine ⟨_, h, ?_⟩
    show gx_N dk ((x <<< y) % 4294967296) = _
    rw [gn_c (Nat.mod_lt _ (by decide)), gn_c (show x < 4294967296 by omega), gn_c (show y < 4294967296 by omega)]
    apply Int32.toBitVec_inj.mp
    apply BitVec.eq_of_toNat_eq
    rw [pk_shl (nI x) (nI y &&& 31) y (gl_sh32 ⟨y, by omega⟩), pk_tn (Nat.mod_lt _ (by decide)), pk_tn (by omega), Nat.shiftLeft_eq]
  · obtain ⟨hc, h⟩ := gb_t h
    obtain ⟨c1, c2⟩ := go_and hc
    obtain ⟨c2, c3⟩ := go_and c2
    have c1 := gb_ble c1
    have c2 : y = 8 := gb_beq c2
    have c3 : x / 4294967296 % 4 = 0 := gb_beq c3
    refine ⟨_, h, ?_⟩
    show gx_N dk ((x / 4294967296 + 1) * 4294967296 + (x % 4294967296 * 256) % 4294967296) = _
    subst c2
    have hne : ¬ (x / 4294967296 + 1) * 4294967296 + (x % 4294967296 * 256) % 4294967296 < 4294967296 := by omega
    have e1 : ((x / 4294967296 + 1) * 4294967296 + (x % 4294967296 * 256) % 4294967296) % 4294967296 = (x % 4294967296 * 256) % 4294967296 := by omega
    have e2 : ((x / 4294967296 + 1) * 4294967296 + (x % 4294967296 * 256) % 4294967296) / 4294967296 = x / 4294967296 + 1 := by omega
    rw [gn_eta dk hne, gn_eta dk (show ¬ x < 4294967296 by omega), e1, e2, c3, gn_mod, show (x / 4294967296 + 1) % 4 = 1 by omega, show (x / 4294967296 + 1) / 4 = x / 4294967296 / 4 by omega, gn_c (show 8 < 4294967296 by decide)]
    generalize dk (x / 4294967296 / 4) = d
    generalize x % 4294967296 = w
    rw [show Int32.ofInt (gx_sc 0) = 1 from rfl, show Int32.ofInt (gx_sc 1) = nI 256 from rfl, Int32.one_mul, nI_add, pk_mul, nI_add]
    apply Int32.toBitVec_inj.mp
    apply BitVec.eq_of_toNat_eq
    rw [pk_shl (nI (w + d)) (nI 8 &&& 31) 8 (by decide +kernel), gn_bv, gn_bv, BitVec.toNat_ofNat, BitVec.toNat_ofNat]
    omega
set_option maxRecDepth 20000 in
theorem go_shr (hd : gx_D dk) (h : gx_shr x y k = true) : ∃ z, k z = true ∧ gx_N dk z = gx_N dk x >>> (gx_N dk y &&& 31) := by
  rcases gb_true h with ⟨hc, h⟩ | ⟨hc, h⟩
  · obtain ⟨c1, c2⟩ := go_and hc
    have c1 := gb_ble c1
    have c2 := gb_ble c2
    refine ⟨_, h, ?_⟩
    show gx_N dk (x >>> y) = _
    rw [Nat.shiftRight_eq_div_pow]
    have : x / 2 ^ y ≤ x := Nat.div_le_self _ _
    rw [gn_c (show x / 2 ^ y < 4294967296 by omega), gn_c (show x < 4294967296 by omega), gn_c (show y < 4294967296 by omega), pk_shrN (by omega) (nI y &&& 31) y (gl_sh32 ⟨y, by omega⟩)]
  · obtain ⟨hc, h⟩ := gb_t h
    obtain ⟨c1, c2⟩ := go_and hc
    obtain ⟨c2, c3⟩ := go_and c2
    obtain ⟨c3, c4⟩ := go_and c3
    have c2 : y = 16 := gb_beq c2
    have c3 := gb_ble c3
    have c4 : (gx_bl x - 2147483648) / 65536 = (gx_bh x - 2147483648) / 65536 := gb_beq c4
    obtain ⟨z, z1, z2, z3, z4, z5⟩ := gn_rng hd c1
    refine ⟨_, h, ?_⟩
    show gx_N dk ((gx_bl x - 2147483648) / 65536) = _
    subst c2
    rw [z3, gn_nat (by omega), gn_c (show 16 < 4294967296 by decide), gn_c (show (gx_bl x - 2147483648) / 65536 < 4294967296 by omega), pk_shrN (n := z.toNat) (by omega) (nI 16 &&& 31) 16 (by decide +kernel)]
    exact congrArg nI (show (gx_bl x - 2147483648) / 65536 = z.toNat / 65536 by omega)
theorem go_ushr (hd : gx_D dk) (h : gx_ushr x y k = true) : ∃ z, k z = true ∧ gx_N dk z = ((gx_N dk x).toUInt32 >>> ((gx_N dk y).toUInt32 &&& Int32.toUInt32 31)).toInt32 := by
  rcases gb_true h with ⟨hc, h⟩ | ⟨hc, h⟩
  · obtain ⟨c1, c2⟩ := go_and hc
    have c1 := gb_ble c1
    have c2 := gb_ble c2
    refine ⟨_, h, ?_⟩
    show gx_N dk (x >>> y) = _
    rw [Nat.shiftRight_eq_div_pow]
    have : x / 2 ^ y ≤ x := Nat.div_le_self _ _
    rw [gn_c (show x / 2 ^ y < 4294967296 by omega), gn_c (show x < 4294967296 by omega), gn_c (show y < 4294967296 by omega), pk_ushrN (by omega) (nI y) y (gl_us32 ⟨y, by omega⟩)]
  · obtain ⟨hc, h⟩ := gb_t h
    obtain ⟨c1, c2⟩ := go_and hc
    have c1 : y = 8 := gb_beq c1
    obtain ⟨z, z1, z2, z3, -⟩ := gn_in hd c2
    refine ⟨_, h, ?_⟩
    subst c1
    rw [z3, gn_c (show 8 < 4294967296 by decide), pk_ushrN (n := z) (by omega) (nI 8) 8 (by decide +kernel), Nat.div_eq_of_lt (by omega), gn_c (show 0 < 4294967296 by decide)]
theorem gn_div (d : Nat) (h : d < 100) : Int32.ofInt (-(d : Int)) / nI 10 = Int32.ofInt (-((d / 10 : Nat) : Int)) := by
  have key : ∀ d : Fin 100, Int32.ofInt (-(d.val : Int)) / nI 10 = Int32.ofInt (-((d.val / 10 : Nat) : Int)) := by decide +kernel
  exact key ⟨d, h⟩
theorem go_div (hd : gx_D dk) (h : gx_div x y k = true) : ∃ z, k z = true ∧ gx_N dk z = gx_N dk x / gx_N dk y ∧ ¬ gx_N dk y = 0 := by
  rcases gb_true h with ⟨hc, h⟩ | ⟨hc, h⟩
  · obtain ⟨c1, c2⟩ := go_and hc
    obtain ⟨c1, c3⟩ := go_cc3 c1
    have c2 := gb_ble c2
    refine ⟨_, h, ?_, ?_⟩
    · show gx_N dk (x / y) = _
      have : x / y ≤ x := Nat.div_le_self _ _
      rw [gn_c (show x / y < 4294967296 by omega), gn_c (show x < 4294967296 by omega), gn_c (show y < 4294967296 by omega), pk_div c1 (by omega) c3]
    · rw [gn_c (show y < 4294967296 by omega)]
      exact nI_ne0 (by omega) c3
  · obtain ⟨hc, h⟩ := gb_t h
    obtain ⟨c1, c2⟩ := go_and hc
    obtain ⟨c2, c3⟩ := go_and c2
    have c1 : y = 10 := gb_beq c1
    have c2 := gb_ble c2
    have c3 : x % 4294967296 = 0 := gb_beq c3
    rw [c1, gn_c (show 10 < 4294967296 by decide), gn_int (show ¬ x < 4294967296 by omega), c3]
    have h10 : ¬ nI 10 = 0 := by decide +kernel
    rcases gb_true h with ⟨hc, h⟩ | ⟨hc, h⟩
    · have c4 : x / 4294967296 % 32 = 6 := gb_beq hc
      obtain ⟨d1, d2⟩ := hd.1 (x / 4294967296 / 4) (by omega)
      have e8 : gx_hi (x / 4294967296 / 4) = 9 := by
        have : ∀ k : Nat, k % 8 = 1 → gx_hi k = 9 := fun k hk => by
          show (38812191001 >>> (8 * (k % 8))) &&& 255 = 9
          rw [hk]; rfl
        exact this _ (by omega)
      refine ⟨_, h, ?_, h10⟩
      rw [show x / 4294967296 % 4 = 2 by omega, show gx_sc 2 = -1 from rfl, show ((0 : Nat) : Int) + -1 * (dk (x / 4294967296 / 4) : Int) = -(dk (x / 4294967296 / 4) : Int) by omega, gn_div _ (by omega), Nat.div_eq_of_lt (by omega)]
      rfl
    · obtain ⟨hc, h⟩ := gb_t h
      have c4 : x / 4294967296 % 32 = 10 := gb_beq hc
      obtain ⟨d1, d2⟩ := hd.1 (x / 4294967296 / 4) (by omega)
      obtain ⟨d3, d4⟩ := hd.2 (x / 4294967296 / 4) (by omega)
      have e8 : gx_hi (x / 4294967296 / 4) = 99 := by
        have : ∀ k : Nat, k % 8 = 2 → gx_hi k = 99 := fun k hk => by
          show (38812191001 >>> (8 * (k % 8))) &&& 255 = 99
          rw [hk]; rfl
        exact this _ (by omega)
      refine ⟨_, h, ?_, h10⟩
      show gx_N dk (x + 17179869184) = _
      rw [gn_int (show ¬ x + 17179869184 < 4294967296 by omega), show (x + 17179869184) % 4294967296 = 0 by omega, show (x + 17179869184) / 4294967296 % 4 = 2 by omega, show (x + 17179869184) / 4294967296 / 4 = x / 4294967296 / 4 + 1 by omega, d3,
        show x / 4294967296 % 4 = 2 by omega, show gx_sc 2 = -1 from rfl, show ((0 : Nat) : Int) + -1 * (dk (x / 4294967296 / 4) : Int) = -(dk (x / 4294967296 / 4) : Int) by omega, gn_div _ (by omega)]
      congr 1
      omega
theorem go_rem (h : gx_rem x y k = true) : ∃ z, k z = true ∧ gx_N dk z = gx_N dk x - gx_N dk x / gx_N dk y * gx_N dk y ∧ ¬ gx_N dk y = 0 := by
  obtain ⟨hc, h⟩ := gb_t h
  obtain ⟨c1, c2⟩ := go_and hc
  obtain ⟨c1, c3⟩ := go_cc3 c1
  have c2 := gb_ble c2
  refine ⟨_, h, ?_, ?_⟩
  · show gx_N dk (x % y) = _
    have h1 : x % y < y := Nat.mod_lt _ (by omega)
    have h2 : y * (x / y) + x % y = x := Nat.div_add_mod x y
    rw [gn_c (show x % y < 4294967296 by omega), gn_c (show x < 4294967296 by omega), gn_c (show y < 4294967296 by omega), pk_div c1 (by omega) c3, pk_mul]
    rw [← gn_of, ← gn_of, ← gn_of, gn_sub]
    congr 1
    rw [Nat.mul_comm (x / y) y]
    generalize y * (x / y) = q at *
    omega
  · rw [gn_c (show y < 4294967296 by omega)]
    exact nI_ne0 (by omega) c3
theorem gl_ti {n : Nat} (h : n < 9223372036854775808) : (lN n).toInt = (n : Int) := Int64.toInt_ofNat_of_lt h
theorem gl_s64 : ∀ y : Fin 64, (((nI y.val).toInt64 &&& 63).toBitVec.smod 64).toNat = y.val := by decide +kernel
theorem gl_u64 : ∀ y : Fin 64, (((nI y.val).toInt64.toUInt64 &&& Int64.toUInt64 63).toBitVec % 64).toNat = y.val := by decide +kernel
theorem go_lsh (h : gx_lsh x y k = true) : ∃ z, k z = true ∧ lN z = lN x <<< ((gx_N dk y).toInt64 &&& 63) := by
  obtain ⟨hc, h⟩ := gb_t h
  have c1 := gb_ble hc
  refine ⟨_, h, ?_⟩
  show lN ((x <<< y) % 18446744073709551616) = _
  rw [gl_mod, gn_c (show y < 4294967296 by omega)]
  apply Int64.toBitVec_inj.mp
  rw [Int64.toBitVec_shiftLeft, gl_bv, gl_bv]
  apply BitVec.eq_of_toNat_eq
  rw [BitVec.shiftLeft_eq', BitVec.toNat_shiftLeft, gl_s64 ⟨y, by omega⟩, BitVec.toNat_ofNat, BitVec.toNat_ofNat, Nat.shiftLeft_eq, Nat.shiftLeft_eq, Nat.mod_mul_mod]
theorem go_lus (h : gx_lus x y k = true) : ∃ z, k z = true ∧ lN z = ((lN x).toUInt64 >>> ((gx_N dk y).toInt64.toUInt64 &&& Int64.toUInt64 63)).toInt64 := by
  obtain ⟨hc, h⟩ := gb_t h
  have c1 := gb_ble hc
  refine ⟨_, h, ?_⟩
  show lN ((x % 18446744073709551616) >>> y) = _
  rw [gn_c (show y < 4294967296 by omega)]
  apply Int64.toBitVec_inj.mp
  rw [gl_bv]
  apply BitVec.eq_of_toNat_eq
  show _ = ((lN x).toUInt64 >>> ((nI y).toInt64.toUInt64 &&& Int64.toUInt64 63)).toBitVec.toNat
  rw [UInt64.toBitVec_shiftRight, BitVec.ushiftRight_eq', BitVec.toNat_ushiftRight, gl_u64 ⟨y, by omega⟩, BitVec.toNat_ofNat]
  show _ = (lN x).toBitVec.toNat >>> y
  rw [gl_bv, BitVec.toNat_ofNat, Nat.shiftRight_eq_div_pow]
  have : x % 18446744073709551616 / 2 ^ y ≤ x % 18446744073709551616 := Nat.div_le_self _ _
  exact Nat.mod_eq_of_lt (by omega)
theorem go_lcm (h : gx_lcm x y k = true) : ∃ z, k z = true ∧ gx_N dk z = lg_cmp (lN x) (lN y) := by
  obtain ⟨hc, h⟩ := gb_t h
  obtain ⟨h1, h2⟩ := gb_lor (n := 63) hc
  refine ⟨_, h, ?_⟩
  have t1 : (lN x).toInt = (x : Int) := gl_ti h1
  have t2 : (lN y).toInt = (y : Int) := gl_ti h2
  cases hb : Nat.beq x y with
  | true =>
    have e := gb_beq hb
    subst e
    show gx_N dk 0 = _
    simp [lg_cmp, gn_c (dk := dk) (show 0 < 4294967296 by decide), nI_0]
  | false =>
    have hn := gb_nbeq hb
    cases hl : Nat.ble (Nat.succ x) y with
    | true =>
      have hlt : x < y := gb_ble hl
      show gx_N dk 4294967295 = _
      have q : ¬ lN y < lN x := by rw [Int64.lt_iff_toInt_lt, t1, t2]; omega
      have q2 : lN x < lN y := by rw [Int64.lt_iff_toInt_lt, t1, t2]; omega
      have q3 : ¬ lN x = lN y := fun e => by rw [e, t2] at t1; omega
      rw [gn_c (show 4294967295 < 4294967296 by decide)]
      simp [lg_cmp, q, q2, q3]
      decide +kernel
    | false =>
      have hlt := gb_nble hl
      show gx_N dk 1 = _
      have q : lN y < lN x := by rw [Int64.lt_iff_toInt_lt, t1, t2]; omega
      rw [gn_c (show 1 < 4294967296 by decide)]
      simp [lg_cmp, q]
      decide +kernel
end OPM
end
section
/-! WHAT THE SMALL MACHINE'S STATES STAND FOR. -/
/-- a value with its kind: a whole number, a long, a reference (its type's number, the cell's base: 0 null), nothing -/
abbrev gxV : Type := Nat ⊕ (Nat ⊕ ((Nat × Nat) ⊕ Unit))
abbrev gI (x : Nat) : gxV := .inl x
abbrev gL (x : Nat) : gxV := .inr (.inl x)
abbrev gR (t x : Nat) : gxV := .inr (.inr (.inl (t, x)))
abbrev gB : gxV := .inr (.inr (.inr ()))
/-- a cell: its base in the memory, its type's number (an object of class i: i; an array of kind k: 64 + k; 99: nothing is said of it), how many fields or elements -/
abbrev gxq : Type := Nat × (Nat × Nat)
/-- the launch, the law's own start, the classes' numbers, the array classes, the numbers drawn, the memory at the start, the cells that nobody writes, their addresses -/
abbrev gxG : Type := Launch × (State × (va_G × ((Nat → ClassId) × ((Nat → Nat) × (Nat × (List gxq × (Nat → Nat)))))))
abbrev gg_l (G : gxG) : Launch := G.1
abbrev gg_s (G : gxG) : State := G.2.1
abbrev gg_D (G : gxG) : va_G := G.2.2.1
abbrev gg_cT (G : gxG) : Nat → ClassId := G.2.2.2.1
abbrev gg_dk (G : gxG) : Nat → Nat := G.2.2.2.2.1
abbrev gg_M (G : gxG) : Nat := G.2.2.2.2.2.1
abbrev gg_cr (G : gxG) : List gxq := G.2.2.2.2.2.2.1
abbrev gg_ad (G : gxG) : Nat → Nat := G.2.2.2.2.2.2.2
abbrev gg_lo (G : gxG) : Nat := (gg_s G).heap.size
def gx_cl : List vw_C := [(RX0, TX0, 8), (RX1, TX1, 1), (RX2, TX2, 4), (RX3, TX3, 12), (RX4, TX4, 2), (RX5, TX5, 5), (RX6, TX6, 5), (RX7, TX7, 16), (RJ0, TJ0, 4), (RJ4, TJ4, 4), (RL, TL, 5)]
/-- the kinds of slots: 0 int, 1 char, 2 boolean, 3 byte, 4 long, 8 + t a reference to the type t -/
def gx_F : Nat → List Nat
  | 0 => [0, 0, 1, 0, 0, 73, 9, 9]
  | 1 => [76]
  | 2 => [77, 72, 72, 0]
  | 3 => [0, 74, 74, 72, 72, 9, 9, 0, 0, 0, 0, 2]
  | 4 => [73, 0]
  | 5 => [77, 8, 9, 9, 0]
  | 6 => [72, 72, 72, 0, 0]
  | 7 => [12, 13, 10, 79, 78, 74, 74, 74, 14, 14, 9, 74, 74, 74, 74, 1]
  | 8 => [75, 3, 0, 2]
  | 9 => [75, 3, 2, 0]
  | 10 => [107, 0, 0, 15, 0]
  | _ => []
def gx_ks : Nat → Nat
  | 0 => 0
  | 1 => 1
  | 2 => 2
  | 3 => 3
  | 4 => 4
  | 5 => 8
  | 6 => 9
  | 7 => 11
  | _ => 0
def gx_ty : Nat → FieldType
  | 0 => .int
  | 1 => .char
  | 2 => .boolean
  | 3 => .byte
  | 4 => .long
  | 5 => .object "Farfiles$Act"
  | 6 => .object "Farfiles$ActSet"
  | _ => .object "Farfiles$Client"
def gx_tys (cT : Nat → ClassId) : List (ClassId × FieldType) := [(cT 0, .int), (cT 1, .char), (cT 2, .boolean), (cT 3, .byte), (cT 4, .long), (cT 5, .object "Farfiles$Act"), (cT 6, .object "Farfiles$ActSet"), (cT 7, .object "Farfiles$Client")]
/-- the value of a slot -/
def gx_sl (σ v : Nat) : gxV := if σ < 4 then gI v else if σ = 4 then gL v else gR (σ - 8) v
def gx_rf (ad : Nat → Nat) (x : Nat) : Value := if x = 0 then .null else .ref (ad x)
def gx_den (dk : Nat → Nat) (ad : Nat → Nat) : gxV → Value
  | .inl x => .int (gx_N dk x)
  | .inr (.inl x) => .long (lN x)
  | .inr (.inr (.inl q)) => gx_rf ad q.2
  | .inr (.inr (.inr _)) => .null
def gx_sa (q : gxq) (j : Nat) : Nat := if q.2.1 < 64 then q.1 + j else q.1 + 1 + j
def gx_ss (q : gxq) (j : Nat) : Nat := if q.2.1 < 64 then (gx_F q.2.1).getD j 0 else gx_ks (q.2.1 - 64)
def gx_ex (q : gxq) : Nat := if q.2.1 < 64 then q.2.2 else q.2.2 + 1
noncomputable def gx_sv (M : Nat) (q : gxq) (j : Nat) : gxV := gx_sl (gx_ss q j) (gx_rd M (gx_sa q j))
noncomputable def gx_elm (dk ad : Nat → Nat) (M : Nat) (q : gxq) : vp_A :=
  (q.2.2, if gx_ks (q.2.1 - 64) < 4 then .inl (fun j => if j < q.2.2 then gx_N dk (gx_rd M (gx_sa q j)) else 0) else if gx_ks (q.2.1 - 64) = 4 then .inr (.inl (fun j => if j < q.2.2 then lN (gx_rd M (gx_sa q j)) else 0))
    else .inr (.inr (.inr (.inr (fun j => if j < q.2.2 then (if gx_rd M (gx_sa q j) = 0 then none else some (ad (gx_rd M (gx_sa q j)))) else none)))))
noncomputable def gx_cel (G : gxG) (ad : Nat → Nat) (M : Nat) (q : gxq) : va_E := if q.2.1 < 64 then .inr (q.2.1, (List.range q.2.2).map (fun j => gx_den (gg_dk G) ad (gx_sv M q j))) else .inl (gg_cT G (q.2.1 - 64), gx_elm (gg_dk G) ad M q)
/-- a reference is null, or to a cell of its type -/
def gv_ok (cs : List gxq) : gxV → Prop
  | .inr (.inr (.inl q)) => q.2 = 0 ∨ ∃ z ∈ cs, z.1 = q.2 ∧ z.2.1 = q.1
  | _ => True
def gv_oks (cs : List gxq) (L : List gxV) : Prop := ∀ v ∈ L, gv_ok cs v
def gx_agr (cw : List gxq) (ad ad' : Nat → Nat) : Prop := ∀ q ∈ cw, ad' q.1 = ad q.1
def gx_sb (cw cw' : List gxq) : Prop := ∀ q ∈ cw, q ∈ cw'
/-- the heap holds the state's cells -/
def gxI (G : gxG) (ad : Nat → Nat) (cw : List gxq) (M n : Nat) (H : Heap) : Prop :=
  (gg_lo G ≤ H.size ∧ ∀ q : Nat, q < gg_lo G → H[q]? = (gg_s G).heap[q]?) ∧
  va_P (gg_D G) gx_cl (cw.map fun q => (ad q.1, gx_cel G ad M q)) H ∧
  va_D (fun q => gg_lo G ≤ q) (cw.map fun q => (ad q.1, gx_cel G ad M q)) ∧
  (∀ q ∈ cw, ∀ z ∈ cw, q = z ∨ q.1 + gx_ex q ≤ z.1 ∨ z.1 + gx_ex z ≤ q.1) ∧
  (∀ q ∈ cw, 128 ≤ q.1 ∧ q.1 + gx_ex q ≤ n ∧ (q.2.1 < 64 → q.2.2 = (gx_F q.2.1).length) ∧ (64 ≤ q.2.1 → gx_rd M q.1 = q.2.2 ∧ q.2.1 < 72)) ∧
  (∀ q ∈ cw, ∀ j, j < q.2.2 → gv_ok (gg_cr G ++ cw) (gx_sv M q j)) ∧
  (∀ a, n ≤ a → gx_rd M a = 0) ∧ (∀ a, a < 128 → gx_rd M a = gx_rd (gg_M G) a) ∧ ((128 ≤ n ∧ n < 2000000) ∧ ∀ q ∈ cw, 0 < gx_ex q) ∧ (∀ q ∈ gg_cr G, ad q.1 = gg_ad G q.1)
/-- what stands of the cells that nobody writes -/
def gxR (G : gxG) (s : State) : Prop := ∀ q ∈ gg_cr G, 0 < q.1 ∧ q.1 + gx_ex q ≤ 128 ∧
  (q.2.1 < 64 → (q.2.1 = 8 ∧ q.2.2 = 2) ∧ va_O "java/lang/String" (gg_ad G q.1) (fun q => gg_lo G ≤ q) s s.heap ∧ ∀ j, j < 2 → va_OF (TJ0 j).1 (TJ0 j).2.1 (TJ0 j).2.2.1 (gx_den (gg_dk G) (gg_ad G) (gx_sv (gg_M G) q j)) (gg_ad G q.1) (fun q => gg_lo G ≤ q) s s.heap ∧ gv_ok (gg_cr G) (gx_sv (gg_M G) q j)) ∧
  (64 ≤ q.2.1 → q.2.1 < 96 → q.2.1 < 68 ∧ q.2.2 < 128 ∧ gx_rd (gg_M G) q.1 = q.2.2 ∧ va_T (gx_ty (q.2.1 - 64)) (gg_ad G q.1) q.2.2 (fun j => gx_den (gg_dk G) (gg_ad G) (gx_sv (gg_M G) q j)) (fun q => gg_lo G ≤ q) s s.heap)
theorem gv_ok_sub {cs cs' : List gxq} {v : gxV} (h : gv_ok cs v) (hs : gx_sb cs cs') : gv_ok cs' v := by
  rcases v with x | x | q | x
  · trivial
  · trivial
  · rcases h with h | ⟨z, h1, h2⟩
    · exact Or.inl h
    · exact Or.inr ⟨z, hs z h1, h2⟩
  · trivial
theorem gv_oks_sub {cs cs' : List gxq} {L : List gxV} (h : gv_oks cs L) (hs : gx_sb cs cs') : gv_oks cs' L := fun v hv => gv_ok_sub (h v hv) hs
theorem gx_sb_rf {cs : List gxq} : gx_sb cs cs := fun _ h => h
theorem gx_sb_tr {a b c : List gxq} (h : gx_sb a b) (h2 : gx_sb b c) : gx_sb a c := fun q hq => h2 q (h q hq)
theorem gx_sb_app {a b c : List gxq} (h : gx_sb a b) : gx_sb (c ++ a) (c ++ b) := fun q hq => (List.mem_append.mp hq).elim (fun e => List.mem_append_left _ e) (fun e => List.mem_append_right _ (h q e))
theorem gx_agr_rf {cw : List gxq} {ad : Nat → Nat} : gx_agr cw ad ad := fun _ _ => rfl
theorem gx_agr_tr {a b : List gxq} {x y z : Nat → Nat} (hs : gx_sb a b) (h : gx_agr a x y) (h2 : gx_agr b y z) : gx_agr a x z := fun q hq => (h2 q (hs q hq)).trans (h q hq)
theorem gx_den_agr {dk : Nat → Nat} {cs : List gxq} {ad ad' : Nat → Nat} {v : gxV} (h : gv_ok cs v) (ha : gx_agr cs ad ad') : gx_den dk ad' v = gx_den dk ad v := by
  rcases v with x | x | q | x
  · rfl
  · rfl
  · show gx_rf ad' q.2 = gx_rf ad q.2
    unfold gx_rf
    rcases h with h | ⟨z, h1, h2, h3⟩
    · rw [if_pos h, if_pos h]
    · rw [← h2, ha z h1]
  · rfl
theorem gx_sv_at (M : Nat) (q : gxq) (j : Nat) : gx_sv M q j = gx_sl (gx_ss q j) (gx_rd M (gx_sa q j)) := rfl
theorem gx_sv_eq {M M' : Nat} {q : gxq} {j : Nat} (h : gx_rd M' (gx_sa q j) = gx_rd M (gx_sa q j)) : gx_sv M' q j = gx_sv M q j := by rw [gx_sv_at, h, gx_sv_at]
theorem gx_sa_in {q : gxq} {j : Nat} (h : j < q.2.2) : q.1 ≤ gx_sa q j ∧ gx_sa q j < q.1 + gx_ex q := by
  unfold gx_sa gx_ex
  split <;> omega
theorem gx_cel_eq {G : gxG} {ad : Nat → Nat} {M M' : Nat} {q : gxq} (h : ∀ j, j < q.2.2 → gx_rd M' (gx_sa q j) = gx_rd M (gx_sa q j)) : gx_cel G ad M' q = gx_cel G ad M q := by
  unfold gx_cel
  split
  · exact congrArg (fun z => Sum.inr (q.2.1, z)) (List.map_congr_left fun j hj => congrArg (gx_den (gg_dk G) ad) (gx_sv_eq (h j (List.mem_range.mp hj))))
  · refine congrArg (fun z => Sum.inl (_, z)) ?_
    unfold gx_elm
    refine congrArg (fun z => (q.2.2, z)) ?_
    split
    · exact congrArg Sum.inl (funext fun j => by split <;> simp_all)
    · split
      · exact congrArg (fun z => Sum.inr (Sum.inl z)) (funext fun j => by split <;> simp_all)
      · exact congrArg (fun z => Sum.inr (Sum.inr (Sum.inr (Sum.inr z)))) (funext fun j => by
          by_cases hj : j < q.2.2
          · simp only [if_pos hj, h j hj]
          · simp only [if_neg hj])
theorem gx_cel_agr {G : gxG} {cs : List gxq} {ad ad' : Nat → Nat} {M : Nat} {q : gxq} (h : ∀ j, j < q.2.2 → gv_ok cs (gx_sv M q j)) (ha : gx_agr cs ad ad') : gx_cel G ad' M q = gx_cel G ad M q := by
  unfold gx_cel
  split
  · exact congrArg (fun z => Sum.inr (q.2.1, z)) (List.map_congr_left fun j hj => gx_den_agr (h j (List.mem_range.mp hj)) ha)
  · next hc =>
    unfold gx_elm
    refine congrArg (fun z => Sum.inl (gg_cT G (q.2.1 - 64), (q.2.2, z))) ?_
    split
    · rfl
    · split
      · rfl
      · next h1 h2 =>
        refine congrArg (fun z => Sum.inr (Sum.inr (Sum.inr (Sum.inr z)))) (funext fun j => ?_)
        by_cases hj : j < q.2.2
        · simp only [if_pos hj]
          by_cases h0 : gx_rd M (gx_sa q j) = 0
          · simp only [if_pos h0]
          · simp only [if_neg h0]
            have ho := h j hj
            rw [gx_sv_at, gx_ss, if_neg hc, gx_sl, if_neg h1, if_neg h2] at ho
            rcases ho with ho | ⟨z, z1, z2, z3⟩
            · exact absurd ho h0
            · have z2 : z.1 = gx_rd M (gx_sa q j) := z2
              rw [← z2, ha z z1]
        · simp only [if_neg hj]
end
section
/-! THE JUDGEMENT: from a place of a method's code, a run of the small machine that comes to an end does what the bytecode does. -/
/-- the locals -/
noncomputable def gx_ll (dk ad : Nat → Nat) : Nat → List gxV → List (Nat × Value)
  | _, [] => []
  | i, v :: t => match v with
    | .inr (.inr (.inr _)) => gx_ll dk ad (i + 1) t
    | v => (i, gx_den dk ad v) :: gx_ll dk ad (i + 1) t
def gx_bl0 : gxV → Bool
  | .inr (.inr (.inr _)) => true
  | _ => false
def gx_lg : gxV → Bool
  | .inr (.inl _) => true
  | _ => false
theorem gx_ll_mem {dk ad : Nat → Nat} : ∀ (L : List gxV) (i : Nat) (q : Nat × Value), q ∈ gx_ll dk ad i L ↔ ∃ j v, L[j]? = some v ∧ gx_bl0 v = false ∧ q = (i + j, gx_den dk ad v) := by
  intro L
  induction L with
  | nil => intro i q; simp [gx_ll]
  | cons a t ih =>
    intro i q
    have key : (∃ j v, (a :: t)[j]? = some v ∧ gx_bl0 v = false ∧ q = (i + j, gx_den dk ad v)) ↔ (gx_bl0 a = false ∧ q = (i, gx_den dk ad a)) ∨ ∃ j v, t[j]? = some v ∧ gx_bl0 v = false ∧ q = (i + 1 + j, gx_den dk ad v) := by
      constructor
      · rintro ⟨j, v, h1, h2, h3⟩
        cases j with
        | zero => left; obtain rfl : a = v := by simpa using h1
                  exact ⟨h2, by simpa using h3⟩
        | succ j => right; exact ⟨j, v, by simpa using h1, h2, by rw [h3]; congr 1; omega⟩
      · rintro (⟨h1, h2⟩ | ⟨j, v, h1, h2, h3⟩)
        · exact ⟨0, a, by simp, h1, by simpa using h2⟩
        · exact ⟨j + 1, v, by simpa using h1, h2, by rw [h3]; congr 1; omega⟩
    rw [key]
    rcases a with x | x | x | x
    · show q ∈ (i, gx_den dk ad (.inl x)) :: gx_ll dk ad (i + 1) t ↔ _
      rw [List.mem_cons, ih]; simp [gx_bl0]
    · show q ∈ (i, gx_den dk ad (.inr (.inl x))) :: gx_ll dk ad (i + 1) t ↔ _
      rw [List.mem_cons, ih]; simp [gx_bl0]
    · show q ∈ (i, gx_den dk ad (.inr (.inr (.inl x)))) :: gx_ll dk ad (i + 1) t ↔ _
      rw [List.mem_cons, ih]; simp [gx_bl0]
    · show q ∈ gx_ll dk ad (i + 1) t ↔ _
      rw [ih]; simp [gx_bl0]
def gx_lc (dk ad : Nat → Nat) (nL : Nat) (ls : Array Slot) (L : List gxV) : Prop := lv_has ls nL (gx_ll dk ad 0 L)
theorem gx_lc_at {dk ad : Nat → Nat} {nL : Nat} {ls : Array Slot} {L : List gxV} (h : gx_lc dk ad nL ls L) {i : Nat} {v : gxV} (hi : L[i]? = some v) (hk : gx_bl0 v = false) : ls[i]? = some (.val (gx_den dk ad v)) :=
  h.2.2 (i, gx_den dk ad v) ((gx_ll_mem L 0 _).mpr ⟨i, v, hi, hk, by rw [Nat.zero_add]⟩)
/-- no long right ahead of the place i -/
def gx_pl (L : List gxV) (i : Nat) : Bool := match i with
  | 0 => true
  | j + 1 => match L[j]? with
    | some v => !gx_lg v
    | none => true
theorem gx_cat {dk ad : Nat → Nat} {v : gxV} (h : gx_lg v = false) : (gx_den dk ad v).category = 1 := by
  rcases v with x | x | x | x
  · rfl
  · exact nomatch h
  · show (gx_rf ad x.2).category = 1
    unfold gx_rf
    split <;> rfl
  · rfl
theorem gx_lc_set {dk ad : Nat → Nat} {nL : Nat} {ls' : Array Slot} {L : List gxV} {i : Nat} {v : gxV} (hp : gx_pl L i = true)
    (h' : lv_has ls' nL ((i, gx_den dk ad v) :: (gx_ll dk ad 0 L).filter (fun q => !(q.1 == i) && !(q.1 + 1 == i && q.2.category == 2)))) : gx_lc dk ad nL ls' (L.set i v) := by
  refine ⟨h'.1, h'.2.1, fun q hq => ?_⟩
  obtain ⟨j, x, h3, h4, rfl⟩ := (gx_ll_mem _ _ _).mp hq
  refine h'.2.2 (0 + j, gx_den dk ad x) ?_
  rw [List.getElem?_set] at h3
  by_cases hj : i = j
  · rw [if_pos hj] at h3
    subst hj
    split at h3
    · obtain rfl := Option.some.inj h3
      rw [Nat.zero_add]
      exact List.mem_cons_self
    · exact nomatch h3
  · rw [if_neg hj] at h3
    refine List.mem_cons_of_mem _ (List.mem_filter.mpr ⟨(gx_ll_mem L 0 _).mpr ⟨j, x, h3, h4, rfl⟩, ?_⟩)
    by_cases hj1 : j + 1 = i
    · subst hj1
      have hp : (match L[j]? with | some v => !gx_lg v | none => true) = true := hp
      rw [h3] at hp
      have hp : (!gx_lg x) = true := hp
      have hc := gx_cat (dk := dk) (ad := ad) (v := x) (by cases hx : gx_lg x; rfl; rw [hx] at hp; exact nomatch hp)
      simp [hc]
    · simp
      omega
theorem gx_lc_setl {dk ad : Nat → Nat} {nL : Nat} {ls' : Array Slot} {L : List gxV} {i : Nat} {x : Nat} (hp : gx_pl L i = true)
    (h' : lv_has ls' nL ((i, gx_den dk ad (gL x)) :: (gx_ll dk ad 0 L).filter (fun q => !(q.1 == i) && (!(q.1 == i + 1) && !(q.1 + 1 == i && q.2.category == 2))))) : gx_lc dk ad nL ls' ((L.set i (gL x)).set (i + 1) gB) := by
  refine ⟨h'.1, h'.2.1, fun q hq => ?_⟩
  obtain ⟨j, y, h3, h4, rfl⟩ := (gx_ll_mem _ _ _).mp hq
  refine h'.2.2 (0 + j, gx_den dk ad y) ?_
  rw [List.getElem?_set] at h3
  by_cases hj : i + 1 = j
  · rw [if_pos hj] at h3
    split at h3
    · obtain rfl := Option.some.inj h3
      exact nomatch h4
    · exact nomatch h3
  · rw [if_neg hj, List.getElem?_set] at h3
    by_cases hj0 : i = j
    · rw [if_pos hj0] at h3
      subst hj0
      split at h3
      · obtain rfl := Option.some.inj h3
        rw [Nat.zero_add]
        exact List.mem_cons_self
      · exact nomatch h3
    · rw [if_neg hj0] at h3
      refine List.mem_cons_of_mem _ (List.mem_filter.mpr ⟨(gx_ll_mem L 0 _).mpr ⟨j, y, h3, h4, rfl⟩, ?_⟩)
      by_cases hj1 : j + 1 = i
      · subst hj1
        have hp : (match L[j]? with | some v => !gx_lg v | none => true) = true := hp
        rw [h3] at hp
        have hp : (!gx_lg y) = true := hp
        have hc := gx_cat (dk := dk) (ad := ad) (v := y) (by cases hx : gx_lg y; rfl; rw [hx] at hp; exact nomatch hp)
        simp [hc]
        omega
      · simp
        omega
theorem gx_lc_agr {dk : Nat → Nat} {cs : List gxq} {ad ad' : Nat → Nat} {nL : Nat} {ls : Array Slot} {L : List gxV} (h : gx_lc dk ad nL ls L) (ho : gv_oks cs L) (ha : gx_agr cs ad ad') : gx_lc dk ad' nL ls L := by
  refine ⟨h.1, h.2.1, fun q hq => ?_⟩
  obtain ⟨j, x, h3, h4, rfl⟩ := (gx_ll_mem _ _ _).mp hq
  rw [gx_den_agr (ho x (List.mem_of_getElem? h3)) ha]
  exact h.2.2 _ ((gx_ll_mem L 0 _).mpr ⟨j, x, h3, h4, rfl⟩)
/-- the words of every contract -/
def gx_xs : List Cond := [.selects RJ4 yJ5_ensureCapacityInternal_d00df yJ5_ensureCapacityInternal_d00df, .selects RJ4 yJ5_putStringAt_47b60 yJ5_putStringAt_47b60, .selects RJ4 yJ5_inflateIfNeededFor_a7421 yJ5_inflateIfNeededFor_a7421]
def gx_tb : List Cond := gx_xs ++ lw_tbl
def gx_ws : List Cond := gx_tb.filter goodWord
theorem gx_good : GoodIn gx_ws gx_ws := fun w hw => ⟨hw, good_of_word (List.mem_filter.mp hw).2⟩
theorem gx_goodc {w : Cond} (h : w ∈ gx_ws) : GoodIn gx_ws (w :: gx_ws) := fun x hx => by
  rcases List.mem_cons.mp hx with e | e
  · rw [e]; exact gx_good w h
  · exact gx_good x e
/-- what is thrown: the number by which a run tells it -/
abbrev gx_T : Nat := 18446744073709551616
/-- a method, for its code: may it throw; its bytes; its locals; what it answers; its class; the frames, the locals that it needs; the slot's kind of its answer (5: none); its handlers -/
abbrev gxY : Type := Bool × (ByteArray × (Nat × (Option FieldType × (String × (Nat × (Nat × (Nat × List (Nat × Nat × Nat × Nat))))))))
abbrev gy_x (Y : gxY) : Bool := Y.1
abbrev gy_b (Y : gxY) : ByteArray := Y.2.1
abbrev gy_l (Y : gxY) : Nat := Y.2.2.1
abbrev gy_r (Y : gxY) : Option FieldType := Y.2.2.2.1
abbrev gy_o (Y : gxY) : String := Y.2.2.2.2.1
abbrev gy_f (Y : gxY) : Nat := Y.2.2.2.2.2.1
abbrev gy_k (Y : gxY) : Nat := Y.2.2.2.2.2.2.1
abbrev gy_s (Y : gxY) : Nat := Y.2.2.2.2.2.2.2.1
abbrev gy_h (Y : gxY) : List (Nat × Nat × Nat × Nat) := Y.2.2.2.2.2.2.2.2
/-- the word that says a method's code -/
def gy_w (Y : gxY) (y : MethodName) : Cond := match gy_h Y with
  | [] => .code y (gy_b Y) (gy_l Y) (gy_r Y)
  | h :: t => .codeWith y (gy_b Y) (gy_l Y) (gy_r Y) (h :: t)
def gx_ret (dk ad : Nat → Nat) (σ v : Nat) : Option Value := if σ = 5 then none else some (gx_den dk ad (gx_sl σ v))
abbrev gxA (G : gxG) : Nat → Prop := fun q => gg_lo G ≤ q
def gxPc (G : gxG) (ad : Nat → Nat) (cw : List gxq) (vs : List gxV) (M n : Nat) : Array Value → State → Prop := fun a U => a = (vs.map (gx_den (gg_dk G) ad)).toArray ∧ (gg_s G).WarmedH U.vm ∧ gxI G ad cw M n U.heap ∧ gv_oks (gg_cr G ++ cw) vs
def gxQc (G : gxG) (σ : Nat) (ad : Nat → Nat) (cw : List gxq) (v M n : Nat) : Array Value → State → Outcome → State → Prop := fun _ st oc t =>
  v ≠ gx_T ∧ ∃ (ad' : Nat → Nat) (cw' : List gxq), oc = .returned (gx_ret (gg_dk G) ad' σ v) ∧ gx_agr cw ad ad' ∧ gx_sb cw cw' ∧ gxI G ad' cw' M n t.heap ∧ gv_ok (gg_cr G ++ cw') (gx_sl σ v) ∧ va_F (gxA G) st t
def gxXC (G : gxG) (ad : Nat → Nat) (cw : List gxq) (v M n : Nat) : String → State → State → Prop := fun E st t =>
  v = gx_T ∧ ∃ (ad' : Nat → Nat) (cw' : List gxq), E = "java/lang/UnsupportedOperationException" ∧ gx_agr cw ad ad' ∧ gx_sb cw cw' ∧ gxI G ad' cw' M n t.heap ∧ va_F (gxA G) st t
def gxQ (X : Bool) (below : List Frame) (Qc : Array Value → State → Outcome → State → Prop) (XC : String → State → State → Prop) (a : Array Value) (s : State) (mc ms : Nat) (A : Nat → Prop) : State → Prop := match X with
  | true => vx_MQ below Qc XC a s mc ms A
  | false => MQ below Qc a s mc ms A
/-! the cells that nobody writes: the script (1), NO_SIGNS (2), the JDK's tables of digits (3, 4), a formatter (5), the law's String constants and their bytes -/
def gx_cr : List gxq := [(1, (99, 0)), (2, (65, 0)), (3, (97, 0)), (4, (96, 0)), (5, (98, 0)), (6, (8, 2)), (8, (67, 0)), (9, (8, 2)), (11, (67, 1)), (13, (8, 2)), (15, (67, 2)), (18, (8, 2)), (20, (67, 2)), (23, (8, 2)), (25, (67, 1)), (27, (8, 2)), (29, (67, 1)), (31, (8, 2)), (33, (67, 2)), (36, (8, 2)), (38, (67, 3)), (42, (8, 2)), (44, (67, 1)), (46, (8, 2)), (48, (67, 2)), (51, (8, 2)), (53, (67, 2))]
def gx_M0 : Nat := 63383165233342737186722325530888008375289747367562816322913920516930968490157895816961139704711667133536196048376453110669973597559397054716503877215791119130332010661755551886211700616770813922236311649997455092642962110170756981925434458647589561726020352203329618022020707284504856862044670503695158520632840711201644874831104866162134442941297861921672062712664937559898771374038276227477978280111816406388799151660123699372323098136788938283365531741030269317712484861640716940855345704823837617855617053869470288682364424512611546338233605603518640428760888075553345445891134541450373051715346441276494840714017464973312366071255546306267742467715050491079434813912959274467727224217133644009372509859557173471723642549554011933171308380264014640480124510695010639503744257890890819880091648
def gx_str : List (Nat × (String × Nat)) := [(65, ("", 6)), (146, ("=", 9)), (166, ("=1", 13)), (168, ("=2", 18)), (176, ("1", 23)), (178, ("2", 27)), (189, ("/f", 31)), (191, ("/f=", 36)), (202, (" ", 42)), (204, ("/x", 46)), (218, ("/y", 51))]
def gxZ (G : gxG) (s : State) : Prop :=
  va_Z "Farfiles" "NO_SIGNS" "[C" (.ref (gg_ad G 2)) (fun q => gg_lo G ≤ q) s s.heap ∧ va_Z "java/lang/String" "COMPACT_STRINGS" "Z" (.int 1) (fun q => gg_lo G ≤ q) s s.heap ∧
  (va_Z "jdk/internal/util/Preconditions" "SIOOBE_FORMATTER" "Ljava/util/function/BiFunction;" .null (fun q => gg_lo G ≤ q) s s.heap ∨ va_Z "jdk/internal/util/Preconditions" "SIOOBE_FORMATTER" "Ljava/util/function/BiFunction;" (.ref (gg_ad G 5)) (fun q => gg_lo G ≤ q) s s.heap) ∧
  (va_Z "java/lang/Integer" "DigitOnes" "[B" (.ref (gg_ad G 3)) (fun q => gg_lo G ≤ q) s s.heap ∧ va_Z "java/lang/Integer" "DigitTens" "[B" (.ref (gg_ad G 4)) (fun q => gg_lo G ≤ q) s s.heap ∧ va_T .byte (gg_ad G 3) 100 (fun j => .int (nI (48 + j % 10))) (fun q => gg_lo G ≤ q) s s.heap ∧ va_T .byte (gg_ad G 4) 100 (fun j => .int (nI (48 + j / 10))) (fun q => gg_lo G ≤ q) s s.heap) ∧
  (vx_Zq Bundle.tN "UNASSIGNED_STACK" Bundle.steD (fun q => gg_lo G ≤ q) s s.heap ∧ vx_Zq Bundle.tN "SUPPRESSED_SENTINEL" Bundle.listD (fun q => gg_lo G ≤ q) s s.heap) ∧
  (∀ q ∈ gx_str, vk_R "FarfilesLaw" q.1 q.2.1 (gg_ad G q.2.2) s) ∧ (∃ sa, vk_R "Farfiles" 171 "refused" sa s) ∧ gg_cr G = gx_cr ∧ gg_M G = gx_M0
/-- what stands through a whole body -/
def gxX (G : gxG) (Y : gxY) (p : Program) (R : Room) (s : State) (m : MethodId) (args : Array Value) (meth : Method) (c : Code) : Prop :=
  p.tables.exec = Jvm.exec ∧ c.code = gy_b Y ∧ c.maxLocals = gy_l Y ∧ meth.sig.returnType = gy_r Y ∧ s.vm.findClass (gy_o Y) = some m.cls ∧ (∀ w ∈ gx_ws, w.before args s = true) ∧ meth.locks = false ∧ ((gg_s G).WarmedH s.vm ∧ gxR G s ∧ gx_D (gg_dk G) ∧ gxZ G s) ∧ va_K (gg_D G) gx_cl (gx_tys (gg_cT G)) s ∧
  (gg_lo G ≤ s.heap.size ∧ ∀ q : Nat, q < gg_lo G → s.heap[q]? = (gg_s G).heap[q]?) ∧ gy_f Y ≤ R.frames ∧ gy_k Y ≤ R.locals ∧ (gg_l G).flags = flags0 ∧ c.exceptionTable.toList = tableOf (gy_h Y)
/-- what stands at a place -/
def gxU (G : gxG) (s : State) (nL : Nat) (c0 n0 : Nat) (cw0 : List gxq) (ad0 : Nat → Nat) (st L : List gxV) (M n c cells slots : Nat) (cw : List gxq) (ad : Nat → Nat) (H : Heap) (locs : List Loc) (ls : Array Slot) : Prop :=
  cells + c0 = c ∧ slots + n0 = n ∧ gxI G ad cw M n H ∧ gx_agr cw0 ad0 ad ∧ gx_sb cw0 cw ∧ va_S (gxA G) s.heap H locs ∧ gx_lc (gg_dk G) ad nL ls L ∧ gv_oks (gg_cr G ++ cw) st ∧ gv_oks (gg_cr G ++ cw) L
def gxJ (G : gxG) (Y : gxY) (K : Nat → Nat → Nat → Nat → Bool) (pc : Nat) (st L : List gxV) (M n c : Nat) (e : Bool) : Prop := e = true → ∃ v M' n' c' : Nat, K v M' n' c' = true ∧ n ≤ n' ∧ c ≤ c' ∧ (Y.1 = false → v ≠ gx_T) ∧
  ∀ (p : Program) (e : Env) (R : Room) (s : State) (m : MethodId) (args : Array Value) (below : List Frame) (meth : Method) (cd : Code), gxX G Y p R s m args meth cd →
  ∀ (c0 n0 : Nat) (cw0 : List gxq) (ad0 : Nat → Nat), R.cells + c0 = c' → R.slots + n0 = n' →
  ∀ (cells slots : Nat) (cw : List gxq) (ad : Nat → Nat) (H : Heap) (locs : List Loc) (ls : Array Slot), gxU G s (gy_l Y) c0 n0 cw0 ad0 st L M n c cells slots cw ad H locs ls →
    W p (gg_l G) e R s m args below meth cd H locs cells slots (gxQ Y.1 below (gxQc G (gy_s Y) ad0 cw0 v M' n') (gxXC G ad0 cw0 v M' n') args s R.cells R.slots (gxA G)) (F0 m pc ls (st.map (gx_den (gg_dk G) ad)))
/-- a method's contract: when its function comes to an end -/
def gxC (G : gxG) (Y : gxY) (y : MethodName) (vs : List gxV) (cw : List gxq) (ad : Nat → Nat) (M n c v M' n' c' : Nat) : Prop := match Y.1 with
  | true => vx_Met (gg_l G) y (gy_w Y y :: gx_ws) { frames := gy_f Y, cells := c' - c, slots := n' - n, locals := gy_k Y } (gxPc G ad cw vs M n) (gxQc G (gy_s Y) ad cw v M' n') (gxXC G ad cw v M' n') (c' - c) (n' - n) (gxA G)
  | false => Met (gg_l G) y (gy_w Y y :: gx_ws) { frames := gy_f Y, cells := c' - c, slots := n' - n, locals := gy_k Y } (gxPc G ad cw vs M n) (gxQc G (gy_s Y) ad cw v M' n') (c' - c) (n' - n) (gxA G)
def gxM (G : gxG) (Y : gxY) (y : MethodName) (vs : List gxV) (f : Nat → Nat → Nat → (Nat → Nat → Nat → Nat → Bool) → Bool) : Prop := ∀ (M n c : Nat) (K : Nat → Nat → Nat → Nat → Bool), f M n c K = true →
  ∃ v M' n' c' : Nat, K v M' n' c' = true ∧ n ≤ n' ∧ c ≤ c' ∧ (Y.1 = false → v ≠ gx_T) ∧ ∀ (cw : List gxq) (ad : Nat → Nat), gxC G Y y vs cw ad M n c v M' n' c'
end
section
/-! RULES: constants, locals, the stack. The run e is the same ahead of such a place and behind it. -/
section RL1
variable {G : gxG} {Y : gxY} {K : Nat → Nat → Nat → Nat → Bool} {pc : Nat} {st L : List gxV} {M n c : Nat} {e : Bool}
theorem gj_false : gxJ G Y K pc st L M n c false := fun h => nomatch h
theorem gj_go {pc' : Nat} {st' L' : List gxV} (hk : gxJ G Y K pc' st' L' M n c e)
    (hrow : ∀ (p : Program) (e : Env) (R : Room) (s : State) (m : MethodId) (args : Array Value) (below : List Frame) (meth : Method) (cd : Code), gxX G Y p R s m args meth cd →
      ∀ (cells slots : Nat) (cw : List gxq) (ad : Nat → Nat) (H : Heap) (locs : List Loc) (ls : Array Slot) (Q : State → Prop), gx_lc (gg_dk G) ad (gy_l Y) ls L → gv_oks (gg_cr G ++ cw) st → gv_oks (gg_cr G ++ cw) L →
        (∀ ls' : Array Slot, gx_lc (gg_dk G) ad (gy_l Y) ls' L' → gv_oks (gg_cr G ++ cw) st' → gv_oks (gg_cr G ++ cw) L' → W p (gg_l G) e R s m args below meth cd H locs cells slots Q (F0 m pc' ls' (st'.map (gx_den (gg_dk G) ad)))) →
        W p (gg_l G) e R s m args below meth cd H locs cells slots Q (F0 m pc ls (st.map (gx_den (gg_dk G) ad)))) : gxJ G Y K pc st L M n c e := by
  intro h
  obtain ⟨v, M', n', c', h1, h2, h3, h4, kk⟩ := hk h
  refine ⟨v, M', n', c', h1, h2, h3, h4, fun p e R s m args below meth cd X c0 n0 cw0 ad0 hc hn cells slots cw ad H locs ls U => ?_⟩
  obtain ⟨u1, u2, uI, ua, ud, uS, uL, us, ul⟩ := U
  exact hrow p e R s m args below meth cd X cells slots cw ad H locs ls _ uL us ul (fun ls' a b d => kk p e R s m args below meth cd X c0 n0 cw0 ad0 hc hn cells slots cw ad H locs ls' ⟨u1, u2, uI, ua, ud, uS, a, b, d⟩)
theorem gv_oks_cons {cs : List gxq} {v : gxV} {L : List gxV} (h : gv_ok cs v) (hl : gv_oks cs L) : gv_oks cs (v :: L) := fun w hw => by
  rcases List.mem_cons.mp hw with e | e
  · rw [e]; exact h
  · exact hl w e
theorem gv_oks_tl {cs : List gxq} {v : gxV} {L : List gxV} (h : gv_oks cs (v :: L)) : gv_oks cs L := fun w hw => h w (List.mem_cons_of_mem _ hw)
theorem gv_oks_hd {cs : List gxq} {v : gxV} {L : List gxV} (h : gv_oks cs (v :: L)) : gv_ok cs v := h v List.mem_cons_self
theorem gv_oks_set {cs : List gxq} {v : gxV} {L : List gxV} {i : Nat} (h : gv_oks cs L) (hv : gv_ok cs v) : gv_oks cs (L.set i v) := fun w hw => by
  rcases List.mem_or_eq_of_mem_set hw with e | e
  · exact h w e
  · rw [e]; exact hv
theorem gv_oks_at {cs : List gxq} {v : gxV} {L : List gxV} {i : Nat} (h : gv_oks cs L) (hv : L[i]? = some v) : gv_ok cs v := h v (List.mem_of_getElem? hv)
theorem gv_oks_nil {cs : List gxq} : gv_oks cs [] := fun _ h => nomatch h
theorem gr_iconst {z : Int} (x : Nat) (hdg : decode (gy_b Y) pc = .ok (.iconst z, 1)) (hv : Int32.ofInt z = nI x ∧ x < 4294967296) (hk : gxJ G Y K (pc + 1) (gI x :: st) L M n c e) : gxJ G Y K pc st L M n c e :=
  gj_go hk fun p e R s m args below meth cd X cells slots cw ad H locs ls Q uL us ul kk => lv_iconst X.1 X.2.1 hdg (hv.1.trans (gn_c hv.2).symm) (kk ls uL (gv_oks_cons trivial us) ul)
theorem gr_bipush {z : Int} (x : Nat) (hdg : decode (gy_b Y) pc = .ok (.bipush z, 2)) (hv : (Int8.ofInt z).toInt32 = nI x ∧ x < 4294967296) (hk : gxJ G Y K (pc + 2) (gI x :: st) L M n c e) : gxJ G Y K pc st L M n c e :=
  gj_go hk fun p e R s m args below meth cd X cells slots cw ad H locs ls Q uL us ul kk => lv_bipush X.1 X.2.1 hdg (hv.1.trans (gn_c hv.2).symm) (kk ls uL (gv_oks_cons trivial us) ul)
theorem gr_sipush {z : Int} (x : Nat) (hdg : decode (gy_b Y) pc = .ok (.sipush z, 3)) (hv : (Int16.ofInt z).toInt32 = nI x ∧ x < 4294967296) (hk : gxJ G Y K (pc + 3) (gI x :: st) L M n c e) : gxJ G Y K pc st L M n c e :=
  gj_go hk fun p e R s m args below meth cd X cells slots cw ad H locs ls Q uL us ul kk => lv_sipush X.1 X.2.1 hdg (hv.1.trans (gn_c hv.2).symm) (kk ls uL (gv_oks_cons trivial us) ul)
theorem gr_lconst {z : Fin 2} (x : Nat) (hdg : decode (gy_b Y) pc = .ok (.lconst z, 1)) (hv : Int64.ofNat (z : Nat) = lN x) (hk : gxJ G Y K (pc + 1) (gL x :: st) L M n c e) : gxJ G Y K pc st L M n c e :=
  gj_go hk fun p e R s m args below meth cd X cells slots cw ad H locs ls Q uL us ul kk => lv_lconst X.1 X.2.1 hdg hv (kk ls uL (gv_oks_cons trivial us) ul)
theorem gr_null (t : Nat) (hdg : decode (gy_b Y) pc = .ok (.aconst_null, 1)) (hk : gxJ G Y K (pc + 1) (gR t 0 :: st) L M n c e) : gxJ G Y K pc st L M n c e :=
  gj_go hk fun p e R s m args below meth cd X cells slots cw ad H locs ls Q uL us ul kk => lv_null X.1 X.2.1 hdg (kk ls uL (gv_oks_cons (Or.inl rfl) us) ul)
theorem gr_ldc {index : Nat} {z : Int32} (x : Nat) (hdg : decode (gy_b Y) pc = .ok (.ldc index, 2)) (hw : Cond.constant (gy_o Y) index z ∈ gx_ws) (hv : z = nI x ∧ x < 4294967296) (hk : gxJ G Y K (pc + 2) (gI x :: st) L M n c e) : gxJ G Y K pc st L M n c e :=
  gj_go hk fun p e R s m args below meth cd X cells slots cw ad H locs ls Q uL us ul kk => by
    have := hv.1.trans (gn_c (dk := gg_dk G) hv.2).symm
    subst this
    exact lv_ldc X.1 X.2.1 X.2.2.2.2.1 (X.2.2.2.2.2.1 _ hw) hdg (kk ls uL (gv_oks_cons trivial us) ul)
theorem gr_ldc2 {index : Nat} {z : Int64} (x : Nat) (hdg : decode (gy_b Y) pc = .ok (.ldc2_w index, 3)) (hw : Cond.constantLong (gy_o Y) index z ∈ gx_ws) (hv : z = lN x) (hk : gxJ G Y K (pc + 3) (gL x :: st) L M n c e) : gxJ G Y K pc st L M n c e :=
  gj_go hk fun p e R s m args below meth cd X cells slots cw ad H locs ls Q uL us ul kk => by
    subst hv
    exact lv_ldc2 X.1 X.2.1 X.2.2.2.2.1 (X.2.2.2.2.2.1 _ hw) hdg (kk ls uL (gv_oks_cons trivial us) ul)
/-- locals -/
theorem gr_iload_n {i : Nat} {j : Fin 4} (x : Nat) (hdg : decode (gy_b Y) pc = .ok (.iload_n j, 1)) (hj : (j : Nat) = i) (hi : L[i]? = some (gI x)) (hk : gxJ G Y K (pc + 1) (gI x :: st) L M n c e) : gxJ G Y K pc st L M n c e :=
  gj_go hk fun p e R s m args below meth cd X cells slots cw ad H locs ls Q uL us ul kk => lv_iload_n X.1 X.2.1 hdg hj (gx_lc_at uL hi rfl) (kk ls uL (gv_oks_cons trivial us) ul)
theorem gr_iload {i : Nat} (x : Nat) (hdg : decode (gy_b Y) pc = .ok (.iload i, 2)) (hi : L[i]? = some (gI x)) (hk : gxJ G Y K (pc + 2) (gI x :: st) L M n c e) : gxJ G Y K pc st L M n c e :=
  gj_go hk fun p e R s m args below meth cd X cells slots cw ad H locs ls Q uL us ul kk => lv_iload X.1 X.2.1 hdg (gx_lc_at uL hi rfl) (kk ls uL (gv_oks_cons trivial us) ul)
theorem gr_lload_n {i : Nat} {j : Fin 4} (x : Nat) (hdg : decode (gy_b Y) pc = .ok (.lload_n j, 1)) (hj : (j : Nat) = i) (hi : L[i]? = some (gL x)) (hk : gxJ G Y K (pc + 1) (gL x :: st) L M n c e) : gxJ G Y K pc st L M n c e :=
  gj_go hk fun p e R s m args below meth cd X cells slots cw ad H locs ls Q uL us ul kk => lv_lload_n X.1 X.2.1 hdg hj (gx_lc_at uL hi rfl) (kk ls uL (gv_oks_cons trivial us) ul)
theorem gl_aload_n {p : Program} {l : Launch} {e : Env} {R : Room} {s : State} {m : MethodId} {args : Array Value} {below : List Frame} {meth : Method} {c : Code} {H : Heap} {locs : List Loc} {cells slots : Nat} {Q : State → Prop} {cc : ByteArray} {ls : Array Slot} {rest : List Value} {pc : Nat}
    (hexec : p.tables.exec = Jvm.exec) (hb : c.code = cc) {j : Fin 4} {i : Nat} (hdg : decode cc pc = .ok (.aload_n j, 1)) (hi : (j : Nat) = i) (hl : ls[i]? = some (.val .null))
    (k : W p l e R s m args below meth c H locs cells slots Q (F0 m (pc + 1) ls (.null :: rest))) : W p l e R s m args below meth c H locs cells slots Q (F0 m pc ls (rest)) := by
  subst hi
  intro T hT X
  obtain ⟨t, a, b⟩ := k T hT X
  refine ⟨t, ?_, b⟩
  jvm_step X.here [X.here.top, hexec, hb, hdg, hl]
  exact ⟨rfl, a⟩
theorem gl_aload {p : Program} {l : Launch} {e : Env} {R : Room} {s : State} {m : MethodId} {args : Array Value} {below : List Frame} {meth : Method} {c : Code} {H : Heap} {locs : List Loc} {cells slots : Nat} {Q : State → Prop} {cc : ByteArray} {ls : Array Slot} {rest : List Value} {pc : Nat}
    (hexec : p.tables.exec = Jvm.exec) (hb : c.code = cc) {i : Nat} (hdg : decode cc pc = .ok (.aload i, 2)) (hl : ls[i]? = some (.val .null))
    (k : W p l e R s m args below meth c H locs cells slots Q (F0 m (pc + 2) ls (.null :: rest))) : W p l e R s m args below meth c H locs cells slots Q (F0 m pc ls (rest)) := by
  intro T hT X
  obtain ⟨t, a, b⟩ := k T hT X
  refine ⟨t, ?_, b⟩
  jvm_step X.here [X.here.top, hexec, hb, hdg, hl]
  exact ⟨rfl, a⟩
theorem gx_rf2 (dk ad : Nat → Nat) (t x : Nat) : gx_den dk ad (gR t x) = .null ∨ ∃ a, gx_den dk ad (gR t x) = .ref a := by
  show gx_rf ad x = _ ∨ ∃ a, gx_rf ad x = _
  unfold gx_rf
  split
  · exact Or.inl rfl
  · exact Or.inr ⟨_, rfl⟩
theorem gr_aload_n {i : Nat} {j : Fin 4} (t x : Nat) (hdg : decode (gy_b Y) pc = .ok (.aload_n j, 1)) (hj : (j : Nat) = i) (hi : L[i]? = some (gR t x)) (hk : gxJ G Y K (pc + 1) (gR t x :: st) L M n c e) : gxJ G Y K pc st L M n c e :=
  gj_go hk fun p e R s m args below meth cd X cells slots cw ad H locs ls Q uL us ul kk => by
    have hl := gx_lc_at uL hi rfl
    have w := kk ls uL (gv_oks_cons (gv_oks_at ul hi) us) ul
    rw [List.map_cons] at w
    rcases gx_rf2 (gg_dk G) ad t x with h | ⟨a, h⟩
    · rw [h] at hl w; exact gl_aload_n X.1 X.2.1 hdg hj hl w
    · rw [h] at hl w; exact lv_aload_n X.1 X.2.1 hdg hj hl w
theorem gr_aload {i : Nat} (t x : Nat) (hdg : decode (gy_b Y) pc = .ok (.aload i, 2)) (hi : L[i]? = some (gR t x)) (hk : gxJ G Y K (pc + 2) (gR t x :: st) L M n c e) : gxJ G Y K pc st L M n c e :=
  gj_go hk fun p e R s m args below meth cd X cells slots cw ad H locs ls Q uL us ul kk => by
    have hl := gx_lc_at uL hi rfl
    have w := kk ls uL (gv_oks_cons (gv_oks_at ul hi) us) ul
    rw [List.map_cons] at w
    rcases gx_rf2 (gg_dk G) ad t x with h | ⟨a, h⟩
    · rw [h] at hl w; exact gl_aload X.1 X.2.1 hdg hl w
    · rw [h] at hl w; exact lv_aload X.1 X.2.1 hdg hl w
theorem gr_istore_n {i : Nat} {j : Fin 4} {x : Nat} {L' : List gxV} (hdg : decode (gy_b Y) pc = .ok (.istore_n j, 1)) (hj : (j : Nat) = i) (hi : i < gy_l Y) (hp : gx_pl L i = true) (hL : L.set i (gI x) = L') (hk : gxJ G Y K (pc + 1) st L' M n c e) : gxJ G Y K pc (gI x :: st) L M n c e := by
  subst hL
  exact gj_go hk fun p e R s m args below meth cd X cells slots cw ad H locs ls Q uL us ul kk => lv_istore_n X.1 X.2.1 hdg hj uL hi rfl (fun ls' h' => kk ls' (gx_lc_set (v := gI x) hp h') (gv_oks_tl us) (gv_oks_set ul trivial))
theorem gr_istore {i : Nat} {x : Nat} {L' : List gxV} (hdg : decode (gy_b Y) pc = .ok (.istore i, 2)) (hi : i < gy_l Y) (hp : gx_pl L i = true) (hL : L.set i (gI x) = L') (hk : gxJ G Y K (pc + 2) st L' M n c e) : gxJ G Y K pc (gI x :: st) L M n c e := by
  subst hL
  exact gj_go hk fun p e R s m args below meth cd X cells slots cw ad H locs ls Q uL us ul kk => lv_istore X.1 X.2.1 hdg uL hi rfl (fun ls' h' => kk ls' (gx_lc_set (v := gI x) hp h') (gv_oks_tl us) (gv_oks_set ul trivial))
theorem gr_lstore_n {i : Nat} {j : Fin 4} {x : Nat} {L' : List gxV} (hdg : decode (gy_b Y) pc = .ok (.lstore_n j, 1)) (hj : (j : Nat) = i) (hi : i + 1 < gy_l Y) (hp : gx_pl L i = true) (hL : (L.set i (gL x)).set (i + 1) gB = L') (hk : gxJ G Y K (pc + 1) st L' M n c e) : gxJ G Y K pc (gL x :: st) L M n c e := by
  subst hL
  exact gj_go hk fun p e R s m args below meth cd X cells slots cw ad H locs ls Q uL us ul kk => lv_lstore_n X.1 X.2.1 hdg hj uL hi rfl (fun ls' h' => kk ls' (gx_lc_setl hp h') (gv_oks_tl us) (gv_oks_set (gv_oks_set ul trivial) trivial))
theorem gl_astore_n {p : Program} {l : Launch} {e : Env} {R : Room} {s : State} {m : MethodId} {args : Array Value} {below : List Frame} {meth : Method} {c : Code} {H : Heap} {locs : List Loc} {cells slots : Nat} {Q : State → Prop} {cc : ByteArray} {ls : Array Slot} {rest : List Value} {pc : Nat}
    (hexec : p.tables.exec = Jvm.exec) (hb : c.code = cc) {j : Fin 4} {i nL : Nat} {lv : List (Nat × Value)} (hdg : decode cc pc = .ok (.astore_n j, 1)) (hi : (j : Nat) = i) (h : lv_has ls nL lv) (hn : i < nL)
    (kk : ∀ ls' : Array Slot, lv_has ls' nL ((i, Value.null) :: lv.filter (fun q => !(q.1 == i) && !(q.1 + 1 == i && q.2.category == 2))) → W p l e R s m args below meth c H locs cells slots Q (F0 m (pc + 1) ls' rest)) : W p l e R s m args below meth c H locs cells slots Q (F0 m pc ls (.null :: rest)) := by
  subst hi
  obtain ⟨ls', e', h'⟩ := lv_store1 (v := .null) h hn rfl
  intro T hT X
  obtain ⟨t, a, b⟩ := kk ls' h' T hT X
  refine ⟨t, ?_, b⟩
  jvm_step X.here [X.here.top, ↓top_set X.here.top, hexec, hb, hdg, e']
  exact ⟨rfl, a⟩
theorem gl_astore {p : Program} {l : Launch} {e : Env} {R : Room} {s : State} {m : MethodId} {args : Array Value} {below : List Frame} {meth : Method} {c : Code} {H : Heap} {locs : List Loc} {cells slots : Nat} {Q : State → Prop} {cc : ByteArray} {ls : Array Slot} {rest : List Value} {pc : Nat}
    (hexec : p.tables.exec = Jvm.exec) (hb : c.code = cc) {i nL : Nat} {lv : List (Nat × Value)} (hdg : decode cc pc = .ok (.astore i, 2)) (h : lv_has ls nL lv) (hn : i < nL)
    (kk : ∀ ls' : Array Slot, lv_has ls' nL ((i, Value.null) :: lv.filter (fun q => !(q.1 == i) && !(q.1 + 1 == i && q.2.category == 2))) → W p l e R s m args below meth c H locs cells slots Q (F0 m (pc + 2) ls' rest)) : W p l e R s m args below meth c H locs cells slots Q (F0 m pc ls (.null :: rest)) := by
  obtain ⟨ls', e', h'⟩ := lv_store1 (v := .null) h hn rfl
  intro T hT X
  obtain ⟨t, a, b⟩ := kk ls' h' T hT X
  refine ⟨t, ?_, b⟩
  jvm_step X.here [X.here.top, ↓top_set X.here.top, hexec, hb, hdg, e']
  exact ⟨rfl, a⟩
theorem gr_astore_n {i : Nat} {j : Fin 4} {t x : Nat} {L' : List gxV} (hdg : decode (gy_b Y) pc = .ok (.astore_n j, 1)) (hj : (j : Nat) = i) (hi : i < gy_l Y) (hp : gx_pl L i = true) (hL : L.set i (gR t x) = L') (hk : gxJ G Y K (pc + 1) st L' M n c e) : gxJ G Y K pc (gR t x :: st) L M n c e := by
  subst hL
  refine gj_go hk fun p e R s m args below meth cd X cells slots cw ad H locs ls Q uL us ul kk => ?_
  have ko := fun ls' h' => kk ls' (gx_lc_set (v := gR t x) hp h') (gv_oks_tl us) (gv_oks_set ul (gv_oks_hd us))
  rw [List.map_cons]
  rcases gx_rf2 (gg_dk G) ad t x with h | ⟨a, h⟩
  · rw [h] at ko ⊢; exact gl_astore_n X.1 X.2.1 hdg hj uL hi ko
  · rw [h] at ko ⊢; exact lv_astore_n X.1 X.2.1 hdg hj uL hi rfl ko
theorem gr_astore {i : Nat} {t x : Nat} {L' : List gxV} (hdg : decode (gy_b Y) pc = .ok (.astore i, 2)) (hi : i < gy_l Y) (hp : gx_pl L i = true) (hL : L.set i (gR t x) = L') (hk : gxJ G Y K (pc + 2) st L' M n c e) : gxJ G Y K pc (gR t x :: st) L M n c e := by
  subst hL
  refine gj_go hk fun p e R s m args below meth cd X cells slots cw ad H locs ls Q uL us ul kk => ?_
  have ko := fun ls' h' => kk ls' (gx_lc_set (v := gR t x) hp h') (gv_oks_tl us) (gv_oks_set ul (gv_oks_hd us))
  rw [List.map_cons]
  rcases gx_rf2 (gg_dk G) ad t x with h | ⟨a, h⟩
  · rw [h] at ko ⊢; exact gl_astore X.1 X.2.1 hdg uL hi ko
  · rw [h] at ko ⊢; exact lv_astore X.1 X.2.1 hdg uL hi rfl ko
/-- jumps, and places that are only called otherwise -/
theorem gr_goto {tgt : Nat} {off : Int} (hdg : decode (gy_b Y) pc = .ok (.goto off, 3)) (ht : (pc : Int) + off = (tgt : Int)) (hk : gxJ G Y K tgt st L M n c e) : gxJ G Y K pc st L M n c e :=
  gj_go hk fun p e R s m args below meth cd X cells slots cw ad H locs ls Q uL us ul kk => lv_goto X.1 X.2.1 hdg ht (kk ls uL us ul)
/-- locals are forgotten -/
def gx_wk : List gxV → List gxV → Bool
  | [], [] => true
  | a :: x, b :: y => match b with
    | .inr (.inr (.inr _)) => gx_wk x y
    | _ => false
  | _, _ => false
def gx_mk : List Bool → List gxV → List gxV
  | b :: bs, v :: L => (match b with | true => v | false => gB) :: gx_mk bs L
  | _, L => L
theorem gx_mk_at : ∀ (bs : List Bool) (L : List gxV) (j : Nat) (v : gxV), (gx_mk bs L)[j]? = some v → L[j]? = some v ∨ gx_bl0 v = true := by
  intro bs
  induction bs with
  | nil => intro L j v h; exact Or.inl h
  | cons b bs ih =>
    intro L j v h
    cases L with
    | nil => exact Or.inl h
    | cons a t =>
      cases j with
      | zero =>
        cases b with
        | true => exact Or.inl h
        | false =>
          have h : some gB = some v := h
          obtain rfl := Option.some.inj h
          exact Or.inr rfl
      | succ j => exact ih t j v h
theorem gr_wk {L' : List gxV} (bs : List Bool) (hb : gx_mk bs L = L') (hk : gxJ G Y K pc st L' M n c e) : gxJ G Y K pc st L M n c e := by
  subst hb
  refine gj_go hk fun p e R s m args below meth cd X cells slots cw ad H locs ls Q uL us ul kk => kk ls ⟨uL.1, uL.2.1, fun q hq => ?_⟩ us (fun v hv => ?_)
  · obtain ⟨j, x, h3, h4, rfl⟩ := (gx_ll_mem _ _ _).mp hq
    rcases gx_mk_at bs L j x h3 with h | h
    · exact uL.2.2 _ ((gx_ll_mem L 0 _).mpr ⟨j, x, h, h4, rfl⟩)
    · rw [h] at h4; exact nomatch h4
  · obtain ⟨j, hj⟩ := List.getElem?_of_mem hv
    rcases gx_mk_at bs L j v hj with h | h
    · exact ul v (List.mem_of_getElem? h)
    · rcases v with x | x | x | x
      · exact nomatch h
      · exact nomatch h
      · exact nomatch h
      · trivial
end RL1
end
section
/-! RULES: operations and branches (printed by wip/p47/gen_rules.py). -/
section RL2
variable {G : gxG} {Y : gxY} {K : Nat → Nat → Nat → Nat → Bool} {pc : Nat} {st L : List gxV} {M n c x y : Nat} {k : Nat → Bool} {kt kf : Bool}
theorem gv_2 {cs : List gxq} {a b : gxV} {L : List gxV} (h : gv_oks cs (a :: b :: L)) : gv_oks cs L := gv_oks_tl (gv_oks_tl h)
theorem gr_iadd (hdg : decode (gy_b Y) pc = .ok (.iadd, 1)) (hk : ∀ z, gxJ G Y K (pc + 1) (gI z :: st) L M n c (k z)) : gxJ G Y K pc (gI y :: gI x :: st) L M n c (gx_add x y k) := fun h => by
  obtain ⟨z, hz, hN⟩ := go_add (dk := gg_dk G) h
  exact gj_go (hk z) (fun p e R s m args below meth cd X cells slots cw ad H locs ls Q uL us ul kk => by
    have w := kk ls uL (gv_oks_cons trivial (gv_2 us)) ul
    rw [List.map_cons, show gx_den (gg_dk G) ad (gI z) = _ from congrArg Value.int hN] at w
    exact lv_iadd X.1 X.2.1 hdg w) hz
theorem gr_isub (hd : gx_D (gg_dk G)) (hdg : decode (gy_b Y) pc = .ok (.isub, 1)) (hk : ∀ z, gxJ G Y K (pc + 1) (gI z :: st) L M n c (k z)) : gxJ G Y K pc (gI y :: gI x :: st) L M n c (gx_sub x y k) := fun h => by
  obtain ⟨z, hz, hN⟩ := go_sub (dk := gg_dk G) hd h
  exact gj_go (hk z) (fun p e R s m args below meth cd X cells slots cw ad H locs ls Q uL us ul kk => by
    have w := kk ls uL (gv_oks_cons trivial (gv_2 us)) ul
    rw [List.map_cons, show gx_den (gg_dk G) ad (gI z) = _ from congrArg Value.int hN] at w
    exact lv_isub X.1 X.2.1 hdg w) hz
theorem gr_imul (hdg : decode (gy_b Y) pc = .ok (.imul, 1)) (hk : ∀ z, gxJ G Y K (pc + 1) (gI z :: st) L M n c (k z)) : gxJ G Y K pc (gI y :: gI x :: st) L M n c (gx_mul x y k) := fun h => by
  obtain ⟨z, hz, hN⟩ := go_mul (dk := gg_dk G) h
  exact gj_go (hk z) (fun p e R s m args below meth cd X cells slots cw ad H locs ls Q uL us ul kk => by
    have w := kk ls uL (gv_oks_cons trivial (gv_2 us)) ul
    rw [List.map_cons, show gx_den (gg_dk G) ad (gI z) = _ from congrArg Value.int hN] at w
    exact lv_imul X.1 X.2.1 hdg w) hz
theorem gr_iand (hd : gx_D (gg_dk G)) (hdg : decode (gy_b Y) pc = .ok (.iand, 1)) (hk : ∀ z, gxJ G Y K (pc + 1) (gI z :: st) L M n c (k z)) : gxJ G Y K pc (gI y :: gI x :: st) L M n c (gx_and x y k) := fun h => by
  obtain ⟨z, hz, hN⟩ := go_and2 (dk := gg_dk G) hd h
  exact gj_go (hk z) (fun p e R s m args below meth cd X cells slots cw ad H locs ls Q uL us ul kk => by
    have w := kk ls uL (gv_oks_cons trivial (gv_2 us)) ul
    rw [List.map_cons, show gx_den (gg_dk G) ad (gI z) = _ from congrArg Value.int hN] at w
    exact lv_iand X.1 X.2.1 hdg w) hz
theorem gr_ior (hd : gx_D (gg_dk G)) (hdg : decode (gy_b Y) pc = .ok (.ior, 1)) (hk : ∀ z, gxJ G Y K (pc + 1) (gI z :: st) L M n c (k z)) : gxJ G Y K pc (gI y :: gI x :: st) L M n c (gx_or x y k) := fun h => by
  obtain ⟨z, hz, hN⟩ := go_or (dk := gg_dk G) hd h
  exact gj_go (hk z) (fun p e R s m args below meth cd X cells slots cw ad H locs ls Q uL us ul kk => by
    have w := kk ls uL (gv_oks_cons trivial (gv_2 us)) ul
    rw [List.map_cons, show gx_den (gg_dk G) ad (gI z) = _ from congrArg Value.int hN] at w
    exact lv_ior X.1 X.2.1 hdg w) hz
theorem gr_ixor (hdg : decode (gy_b Y) pc = .ok (.ixor, 1)) (hk : ∀ z, gxJ G Y K (pc + 1) (gI z :: st) L M n c (k z)) : gxJ G Y K pc (gI y :: gI x :: st) L M n c (gx_xor x y k) := fun h => by
  obtain ⟨z, hz, hN⟩ := go_xor (dk := gg_dk G) h
  exact gj_go (hk z) (fun p e R s m args below meth cd X cells slots cw ad H locs ls Q uL us ul kk => by
    have w := kk ls uL (gv_oks_cons trivial (gv_2 us)) ul
    rw [List.map_cons, show gx_den (gg_dk G) ad (gI z) = _ from congrArg Value.int hN] at w
    exact lv_ixor X.1 X.2.1 hdg w) hz
theorem gr_ishl (hdg : decode (gy_b Y) pc = .ok (.ishl, 1)) (hk : ∀ z, gxJ G Y K (pc + 1) (gI z :: st) L M n c (k z)) : gxJ G Y K pc (gI y :: gI x :: st) L M n c (gx_shl x y k) := fun h => by
  obtain ⟨z, hz, hN⟩ := go_shl (dk := gg_dk G) h
  exact gj_go (hk z) (fun p e R s m args below meth cd X cells slots cw ad H locs ls Q uL us ul kk => by
    have w := kk ls uL (gv_oks_cons trivial (gv_2 us)) ul
    rw [List.map_cons, show gx_den (gg_dk G) ad (gI z) = _ from congrArg Value.int hN] at w
    exact lv_ishl X.1 X.2.1 hdg w) hz
theorem gr_ishr (hd : gx_D (gg_dk G)) (hdg : decode (gy_b Y) pc = .ok (.ishr, 1)) (hk : ∀ z, gxJ G Y K (pc + 1) (gI z :: st) L M n c (k z)) : gxJ G Y K pc (gI y :: gI x :: st) L M n c (gx_shr x y k) := fun h => by
  obtain ⟨z, hz, hN⟩ := go_shr (dk := gg_dk G) hd h
  exact gj_go (hk z) (fun p e R s m args below meth cd X cells slots cw ad H locs ls Q uL us ul kk => by
    have w := kk ls uL (gv_oks_cons trivial (gv_2 us)) ul
    rw [List.map_cons, show gx_den (gg_dk G) ad (gI z) = _ from congrArg Value.int hN] at w
    exact lv_ishr X.1 X.2.1 hdg w) hz
theorem gr_iushr (hd : gx_D (gg_dk G)) (hdg : decode (gy_b Y) pc = .ok (.iushr, 1)) (hk : ∀ z, gxJ G Y K (pc + 1) (gI z :: st) L M n c (k z)) : gxJ G Y K pc (gI y :: gI x :: st) L M n c (gx_ushr x y k) := fun h => by
  obtain ⟨z, hz, hN⟩ := go_ushr (dk := gg_dk G) hd h
  exact gj_go (hk z) (fun p e R s m args below meth cd X cells slots cw ad H locs ls Q uL us ul kk => by
    have w := kk ls uL (gv_oks_cons trivial (gv_2 us)) ul
    rw [List.map_cons, show gx_den (gg_dk G) ad (gI z) = _ from congrArg Value.int hN] at w
    exact lv_iushr X.1 X.2.1 hdg rfl w) hz
theorem gr_idiv (hd : gx_D (gg_dk G)) (hdg : decode (gy_b Y) pc = .ok (.idiv, 1)) (hk : ∀ z, gxJ G Y K (pc + 1) (gI z :: st) L M n c (k z)) : gxJ G Y K pc (gI y :: gI x :: st) L M n c (gx_div x y k) := fun h => by
  obtain ⟨z, hz, hN, hne⟩ := go_div (dk := gg_dk G) hd h
  exact gj_go (hk z) (fun p e R s m args below meth cd X cells slots cw ad H locs ls Q uL us ul kk => by
    have w := kk ls uL (gv_oks_cons trivial (gv_2 us)) ul
    rw [List.map_cons, show gx_den (gg_dk G) ad (gI z) = _ from congrArg Value.int hN] at w
    exact lv_idiv X.1 X.2.1 hdg hne w) hz
theorem gr_irem (hdg : decode (gy_b Y) pc = .ok (.irem, 1)) (hk : ∀ z, gxJ G Y K (pc + 1) (gI z :: st) L M n c (k z)) : gxJ G Y K pc (gI y :: gI x :: st) L M n c (gx_rem x y k) := fun h => by
  obtain ⟨z, hz, hN, hne⟩ := go_rem (dk := gg_dk G) h
  exact gj_go (hk z) (fun p e R s m args below meth cd X cells slots cw ad H locs ls Q uL us ul kk => by
    have w := kk ls uL (gv_oks_cons trivial (gv_2 us)) ul
    rw [List.map_cons, show gx_den (gg_dk G) ad (gI z) = _ from congrArg Value.int hN] at w
    exact lv_irem X.1 X.2.1 hdg hne w) hz
theorem gr_ineg (hdg : decode (gy_b Y) pc = .ok (.ineg, 1)) (hk : ∀ z, gxJ G Y K (pc + 1) (gI z :: st) L M n c (k z)) : gxJ G Y K pc (gI x :: st) L M n c (gx_neg x k) := fun h => by
  obtain ⟨z, hz, hN⟩ := go_neg (dk := gg_dk G) h
  exact gj_go (hk z) (fun p e R s m args below meth cd X cells slots cw ad H locs ls Q uL us ul kk => by
    have w := kk ls uL (gv_oks_cons trivial (gv_oks_tl us)) ul
    rw [List.map_cons, show gx_den (gg_dk G) ad (gI z) = _ from congrArg Value.int hN] at w
    exact lv_ineg X.1 X.2.1 hdg w) hz
theorem gr_i2c (hd : gx_D (gg_dk G)) (hdg : decode (gy_b Y) pc = .ok (.i2c, 1)) (hk : ∀ z, gxJ G Y K (pc + 1) (gI z :: st) L M n c (k z)) : gxJ G Y K pc (gI x :: st) L M n c (gx_i2c x k) := fun h => by
  obtain ⟨z, hz, hN⟩ := go_i2c (dk := gg_dk G) hd h
  exact gj_go (hk z) (fun p e R s m args below meth cd X cells slots cw ad H locs ls Q uL us ul kk => by
    have w := kk ls uL (gv_oks_cons trivial (gv_oks_tl us)) ul
    rw [List.map_cons, show gx_den (gg_dk G) ad (gI z) = _ from congrArg Value.int hN] at w
    exact lv_i2c X.1 X.2.1 hdg rfl w) hz
theorem gr_i2b (hd : gx_D (gg_dk G)) (hdg : decode (gy_b Y) pc = .ok (.i2b, 1)) (hk : ∀ z, gxJ G Y K (pc + 1) (gI z :: st) L M n c (k z)) : gxJ G Y K pc (gI x :: st) L M n c (gx_i2b x k) := fun h => by
  obtain ⟨z, hz, hN⟩ := go_i2b (dk := gg_dk G) hd h
  exact gj_go (hk z) (fun p e R s m args below meth cd X cells slots cw ad H locs ls Q uL us ul kk => by
    have w := kk ls uL (gv_oks_cons trivial (gv_oks_tl us)) ul
    rw [List.map_cons, show gx_den (gg_dk G) ad (gI z) = _ from congrArg Value.int hN] at w
    exact lv_i2b X.1 X.2.1 hdg rfl w) hz
theorem gr_land (hdg : decode (gy_b Y) pc = .ok (.land, 1)) (hk : gxJ G Y K (pc + 1) (gL (Nat.land x y) :: st) L M n c kt) : gxJ G Y K pc (gL y :: gL x :: st) L M n c kt :=
  gj_go hk (fun p e R s m args below meth cd X cells slots cw ad H locs ls Q uL us ul kk => by
    have w := kk ls uL (gv_oks_cons trivial (gv_2 us)) ul
    rw [List.map_cons, show gx_den (gg_dk G) ad (gL (Nat.land x y)) = _ from congrArg Value.long (gl_and x y).symm] at w
    exact lv_land X.1 X.2.1 hdg w)
theorem gr_lor (hdg : decode (gy_b Y) pc = .ok (.lor, 1)) (hk : gxJ G Y K (pc + 1) (gL (Nat.lor x y) :: st) L M n c kt) : gxJ G Y K pc (gL y :: gL x :: st) L M n c kt :=
  gj_go hk (fun p e R s m args below meth cd X cells slots cw ad H locs ls Q uL us ul kk => by
    have w := kk ls uL (gv_oks_cons trivial (gv_2 us)) ul
    rw [List.map_cons, show gx_den (gg_dk G) ad (gL (Nat.lor x y)) = _ from congrArg Value.long (gl_or x y).symm] at w
    exact lv_lor X.1 X.2.1 hdg w)
theorem gr_lxor (hdg : decode (gy_b Y) pc = .ok (.lxor, 1)) (hk : gxJ G Y K (pc + 1) (gL (Nat.xor x y) :: st) L M n c kt) : gxJ G Y K pc (gL y :: gL x :: st) L M n c kt :=
  gj_go hk (fun p e R s m args below meth cd X cells slots cw ad H locs ls Q uL us ul kk => by
    have w := kk ls uL (gv_oks_cons trivial (gv_2 us)) ul
    rw [List.map_cons, show gx_den (gg_dk G) ad (gL (Nat.xor x y)) = _ from congrArg Value.long (gl_xor x y).symm] at w
    exact lv_lxor X.1 X.2.1 hdg w)
theorem gr_ladd (hdg : decode (gy_b Y) pc = .ok (.ladd, 1)) (hk : gxJ G Y K (pc + 1) (gL (Nat.mod (Nat.add x y) 18446744073709551616) :: st) L M n c kt) : gxJ G Y K pc (gL y :: gL x :: st) L M n c kt :=
  gj_go hk (fun p e R s m args below meth cd X cells slots cw ad H locs ls Q uL us ul kk => by
    have w := kk ls uL (gv_oks_cons trivial (gv_2 us)) ul
    rw [List.map_cons, show gx_den (gg_dk G) ad (gL (Nat.mod (Nat.add x y) 18446744073709551616)) = _ from congrArg Value.long ((gl_mod (x + y)).trans (lN_add x y).symm)] at w
    exact lv_ladd X.1 X.2.1 hdg w)
theorem gr_lsub (hdg : decode (gy_b Y) pc = .ok (.lsub, 1)) (hk : gxJ G Y K (pc + 1) (gL (gx_lsu x y) :: st) L M n c kt) : gxJ G Y K pc (gL y :: gL x :: st) L M n c kt :=
  gj_go hk (fun p e R s m args below meth cd X cells slots cw ad H locs ls Q uL us ul kk => by
    have w := kk ls uL (gv_oks_cons trivial (gv_2 us)) ul
    rw [List.map_cons, show gx_den (gg_dk G) ad (gL (gx_lsu x y)) = _ from congrArg Value.long (gl_sub x y).symm] at w
    exact lv_lsub X.1 X.2.1 hdg w)
theorem gr_lshl (hdg : decode (gy_b Y) pc = .ok (.lshl, 1)) (hk : ∀ z, gxJ G Y K (pc + 1) (gL z :: st) L M n c (k z)) : gxJ G Y K pc (gI y :: gL x :: st) L M n c (gx_lsh x y k) := fun h => by
  obtain ⟨z, hz, hN⟩ := go_lsh (dk := gg_dk G) h
  exact gj_go (hk z) (fun p e R s m args below meth cd X cells slots cw ad H locs ls Q uL us ul kk => by
    have w := kk ls uL (gv_oks_cons trivial (gv_2 us)) ul
    rw [List.map_cons, show gx_den (gg_dk G) ad (gL z) = _ from congrArg Value.long hN] at w
    exact lv_lshl X.1 X.2.1 hdg rfl w) hz
theorem gr_lushr (hdg : decode (gy_b Y) pc = .ok (.lushr, 1)) (hk : ∀ z, gxJ G Y K (pc + 1) (gL z :: st) L M n c (k z)) : gxJ G Y K pc (gI y :: gL x :: st) L M n c (gx_lus x y k) := fun h => by
  obtain ⟨z, hz, hN⟩ := go_lus (dk := gg_dk G) h
  exact gj_go (hk z) (fun p e R s m args below meth cd X cells slots cw ad H locs ls Q uL us ul kk => by
    have w := kk ls uL (gv_oks_cons trivial (gv_2 us)) ul
    rw [List.map_cons, show gx_den (gg_dk G) ad (gL z) = _ from congrArg Value.long hN] at w
    exact lv_lushr X.1 X.2.1 hdg rfl w) hz
theorem gr_lcmp (hdg : decode (gy_b Y) pc = .ok (.lcmp, 1)) (hk : ∀ z, gxJ G Y K (pc + 1) (gI z :: st) L M n c (k z)) : gxJ G Y K pc (gL y :: gL x :: st) L M n c (gx_lcm x y k) := fun h => by
  obtain ⟨z, hz, hN⟩ := go_lcm (dk := gg_dk G) h
  exact gj_go (hk z) (fun p e R s m args below meth cd X cells slots cw ad H locs ls Q uL us ul kk => by
    have w := kk ls uL (gv_oks_cons trivial (gv_2 us)) ul
    rw [List.map_cons, show gx_den (gg_dk G) ad (gI z) = _ from congrArg Value.int hN] at w
    exact W.lcmp X.1 X.2.1 hdg w) hz
theorem gr_l2i (hdg : decode (gy_b Y) pc = .ok (.l2i, 1)) (hk : gxJ G Y K (pc + 1) (gI (Nat.mod x 4294967296) :: st) L M n c kt) : gxJ G Y K pc (gL x :: st) L M n c kt :=
  gj_go hk (fun p e R s m args below meth cd X cells slots cw ad H locs ls Q uL us ul kk => by
    have w := kk ls uL (gv_oks_cons trivial (gv_oks_tl us)) ul
    rw [List.map_cons, show gx_den (gg_dk G) ad (gI (Nat.mod x 4294967296)) = _ from congrArg Value.int ((gn_c (Nat.mod_lt _ (by decide))).trans (gl_i x).symm)] at w
    exact lv_l2i X.1 X.2.1 hdg rfl w)
theorem gr_icmp_eq {tgt : Nat} {off : Int} (hd : gx_D (gg_dk G)) (hdg : decode (gy_b Y) pc = .ok (.if_icmp .eq off, 3)) (ht : (pc : Int) + off = (tgt : Int)) (hkt : gxJ G Y K tgt st L M n c kt) (hkf : gxJ G Y K (pc + 3) st L M n c kf) : gxJ G Y K pc (gI y :: gI x :: st) L M n c (gx_eq x y kt kf) := fun h => by
  rcases go_eq (dk := gg_dk G) hd h with ⟨hN, hz⟩ | ⟨hN, hz⟩
  · exact gj_go hkt (fun p e R s m args below meth cd X cells slots cw ad H locs ls Q uL us ul kk => lv_icmp_eq X.1 X.2.1 hdg ht (fun hc => kk ls uL (gv_2 us) ul) (fun hc => absurd hN hc)) hz
  · exact gj_go hkf (fun p e R s m args below meth cd X cells slots cw ad H locs ls Q uL us ul kk => lv_icmp_eq X.1 X.2.1 hdg ht (fun hc => absurd hc hN) (fun hc => kk ls uL (gv_2 us) ul)) hz
theorem gr_icmp_ne {tgt : Nat} {off : Int} (hd : gx_D (gg_dk G)) (hdg : decode (gy_b Y) pc = .ok (.if_icmp .ne off, 3)) (ht : (pc : Int) + off = (tgt : Int)) (hkt : gxJ G Y K tgt st L M n c kt) (hkf : gxJ G Y K (pc + 3) st L M n c kf) : gxJ G Y K pc (gI y :: gI x :: st) L M n c (gx_eq x y kf kt) := fun h => by
  rcases go_eq (dk := gg_dk G) hd h with ⟨hN, hz⟩ | ⟨hN, hz⟩
  · exact gj_go hkf (fun p e R s m args below meth cd X cells slots cw ad H locs ls Q uL us ul kk => lv_icmp_ne X.1 X.2.1 hdg ht (fun hc => absurd hN hc) (fun hc => kk ls uL (gv_2 us) ul)) hz
  · exact gj_go hkt (fun p e R s m args below meth cd X cells slots cw ad H locs ls Q uL us ul kk => lv_icmp_ne X.1 X.2.1 hdg ht (fun hc => kk ls uL (gv_2 us) ul) (fun hc => absurd hc hN)) hz
theorem gr_icmp_lt {tgt : Nat} {off : Int} (hd : gx_D (gg_dk G)) (hdg : decode (gy_b Y) pc = .ok (.if_icmp .lt off, 3)) (ht : (pc : Int) + off = (tgt : Int)) (hkt : gxJ G Y K tgt st L M n c kt) (hkf : gxJ G Y K (pc + 3) st L M n c kf) : gxJ G Y K pc (gI y :: gI x :: st) L M n c (gx_lt x y kt kf) := fun h => by
  rcases go_lt (dk := gg_dk G) hd h with ⟨hN, hz⟩ | ⟨hN, hz⟩
  · exact gj_go hkt (fun p e R s m args below meth cd X cells slots cw ad H locs ls Q uL us ul kk => lv_icmp_lt X.1 X.2.1 hdg ht (fun hc => kk ls uL (gv_2 us) ul) (fun hc => absurd hN hc)) hz
  · exact gj_go hkf (fun p e R s m args below meth cd X cells slots cw ad H locs ls Q uL us ul kk => lv_icmp_lt X.1 X.2.1 hdg ht (fun hc => absurd hc hN) (fun hc => kk ls uL (gv_2 us) ul)) hz
theorem gr_icmp_ge {tgt : Nat} {off : Int} (hd : gx_D (gg_dk G)) (hdg : decode (gy_b Y) pc = .ok (.if_icmp .ge off, 3)) (ht : (pc : Int) + off = (tgt : Int)) (hkt : gxJ G Y K tgt st L M n c kt) (hkf : gxJ G Y K (pc + 3) st L M n c kf) : gxJ G Y K pc (gI y :: gI x :: st) L M n c (gx_lt x y kf kt) := fun h => by
  rcases go_lt (dk := gg_dk G) hd h with ⟨hN, hz⟩ | ⟨hN, hz⟩
  · exact gj_go hkf (fun p e R s m args below meth cd X cells slots cw ad H locs ls Q uL us ul kk => lv_icmp_ge X.1 X.2.1 hdg ht (fun hc => absurd hN (Int32.not_lt.mpr hc)) (fun hc => kk ls uL (gv_2 us) ul)) hz
  · exact gj_go hkt (fun p e R s m args below meth cd X cells slots cw ad H locs ls Q uL us ul kk => lv_icmp_ge X.1 X.2.1 hdg ht (fun hc => kk ls uL (gv_2 us) ul) (fun hc => absurd (Int32.not_lt.mp hN) hc)) hz
theorem gr_icmp_gt {tgt : Nat} {off : Int} (hd : gx_D (gg_dk G)) (hdg : decode (gy_b Y) pc = .ok (.if_icmp .gt off, 3)) (ht : (pc : Int) + off = (tgt : Int)) (hkt : gxJ G Y K tgt st L M n c kt) (hkf : gxJ G Y K (pc + 3) st L M n c kf) : gxJ G Y K pc (gI y :: gI x :: st) L M n c (gx_lt y x kt kf) := fun h => by
  rcases go_lt (dk := gg_dk G) hd h with ⟨hN, hz⟩ | ⟨hN, hz⟩
  · exact gj_go hkt (fun p e R s m args below meth cd X cells slots cw ad H locs ls Q uL us ul kk => lv_icmp_gt X.1 X.2.1 hdg ht (fun hc => kk ls uL (gv_2 us) ul) (fun hc => absurd hN hc)) hz
  · exact gj_go hkf (fun p e R s m args below meth cd X cells slots cw ad H locs ls Q uL us ul kk => lv_icmp_gt X.1 X.2.1 hdg ht (fun hc => absurd hc hN) (fun hc => kk ls uL (gv_2 us) ul)) hz
theorem gr_icmp_le {tgt : Nat} {off : Int} (hd : gx_D (gg_dk G)) (hdg : decode (gy_b Y) pc = .ok (.if_icmp .le off, 3)) (ht : (pc : Int) + off = (tgt : Int)) (hkt : gxJ G Y K tgt st L M n c kt) (hkf : gxJ G Y K (pc + 3) st L M n c kf) : gxJ G Y K pc (gI y :: gI x :: st) L M n c (gx_lt y x kf kt) := fun h => by
  rcases go_lt (dk := gg_dk G) hd h with ⟨hN, hz⟩ | ⟨hN, hz⟩
  · exact gj_go hkf (fun p e R s m args below meth cd X cells slots cw ad H locs ls Q uL us ul kk => lv_icmp_le X.1 X.2.1 hdg ht (fun hc => absurd hN (Int32.not_lt.mpr hc)) (fun hc => kk ls uL (gv_2 us) ul)) hz
  · exact gj_go hkt (fun p e R s m args below meth cd X cells slots cw ad H locs ls Q uL us ul kk => lv_icmp_le X.1 X.2.1 hdg ht (fun hc => kk ls uL (gv_2 us) ul) (fun hc => absurd (Int32.not_lt.mp hN) hc)) hz
theorem gr_z (dk : Nat → Nat) : gx_N dk 0 = 0 := (gn_c (by decide)).trans nI_0
theorem gr_z1 {dk : Nat → Nat} (hd : gx_D dk) (h : gx_eq x 0 kt kf = true) : (gx_N dk x = 0 ∧ kt = true) ∨ (¬ gx_N dk x = 0 ∧ kf = true) := by
  have := go_eq hd h
  rwa [gr_z] at this
theorem gr_z2 {dk : Nat → Nat} (hd : gx_D dk) (h : gx_lt x 0 kt kf = true) : (gx_N dk x < 0 ∧ kt = true) ∨ (¬ gx_N dk x < 0 ∧ kf = true) := by
  have := go_lt hd h
  rwa [gr_z] at this
theorem gr_z3 {dk : Nat → Nat} (hd : gx_D dk) (h : gx_lt 0 x kt kf = true) : (0 < gx_N dk x ∧ kt = true) ∨ (¬ 0 < gx_N dk x ∧ kf = true) := by
  have := go_lt hd h
  rwa [gr_z] at this
theorem gr_ifeq {tgt : Nat} {off : Int} (hd : gx_D (gg_dk G)) (hdg : decode (gy_b Y) pc = .ok (.ifCond .eq off, 3)) (ht : (pc : Int) + off = (tgt : Int)) (hkt : gxJ G Y K tgt st L M n c kt) (hkf : gxJ G Y K (pc + 3) st L M n c kf) : gxJ G Y K pc (gI x :: st) L M n c (gx_eq x 0 kt kf) := fun h => by
  rcases gr_z1 (dk := gg_dk G) hd h with ⟨hN, hz⟩ | ⟨hN, hz⟩
  · exact gj_go hkt (fun p e R s m args below meth cd X cells slots cw ad H locs ls Q uL us ul kk => lv_if_eq X.1 X.2.1 hdg ht (fun hc => kk ls uL (gv_oks_tl us) ul) (fun hc => absurd hN hc)) hz
  · exact gj_go hkf (fun p e R s m args below meth cd X cells slots cw ad H locs ls Q uL us ul kk => lv_if_eq X.1 X.2.1 hdg ht (fun hc => absurd hc hN) (fun hc => kk ls uL (gv_oks_tl us) ul)) hz
theorem gr_ifne {tgt : Nat} {off : Int} (hd : gx_D (gg_dk G)) (hdg : decode (gy_b Y) pc = .ok (.ifCond .ne off, 3)) (ht : (pc : Int) + off = (tgt : Int)) (hkt : gxJ G Y K tgt st L M n c kt) (hkf : gxJ G Y K (pc + 3) st L M n c kf) : gxJ G Y K pc (gI x :: st) L M n c (gx_eq x 0 kf kt) := fun h => by
  rcases gr_z1 (dk := gg_dk G) hd h with ⟨hN, hz⟩ | ⟨hN, hz⟩
  · exact gj_go hkf (fun p e R s m args below meth cd X cells slots cw ad H locs ls Q uL us ul kk => lv_if_ne X.1 X.2.1 hdg ht (fun hc => absurd hN hc) (fun hc => kk ls uL (gv_oks_tl us) ul)) hz
  · exact gj_go hkt (fun p e R s m args below meth cd X cells slots cw ad H locs ls Q uL us ul kk => lv_if_ne X.1 X.2.1 hdg ht (fun hc => kk ls uL (gv_oks_tl us) ul) (fun hc => absurd hc hN)) hz
theorem gr_iflt {tgt : Nat} {off : Int} (hd : gx_D (gg_dk G)) (hdg : decode (gy_b Y) pc = .ok (.ifCond .lt off, 3)) (ht : (pc : Int) + off = (tgt : Int)) (hkt : gxJ G Y K tgt st L M n c kt) (hkf : gxJ G Y K (pc + 3) st L M n c kf) : gxJ G Y K pc (gI x :: st) L M n c (gx_lt x 0 kt kf) := fun h => by
  rcases gr_z2 (dk := gg_dk G) hd h with ⟨hN, hz⟩ | ⟨hN, hz⟩
  · exact gj_go hkt (fun p e R s m args below meth cd X cells slots cw ad H locs ls Q uL us ul kk => lv_if_lt X.1 X.2.1 hdg ht (fun hc => kk ls uL (gv_oks_tl us) ul) (fun hc => absurd hN hc)) hz
  · exact gj_go hkf (fun p e R s m args below meth cd X cells slots cw ad H locs ls Q uL us ul kk => lv_if_lt X.1 X.2.1 hdg ht (fun hc => absurd hc hN) (fun hc => kk ls uL (gv_oks_tl us) ul)) hz
theorem gr_ifge {tgt : Nat} {off : Int} (hd : gx_D (gg_dk G)) (hdg : decode (gy_b Y) pc = .ok (.ifCond .ge off, 3)) (ht : (pc : Int) + off = (tgt : Int)) (hkt : gxJ G Y K tgt st L M n c kt) (hkf : gxJ G Y K (pc + 3) st L M n c kf) : gxJ G Y K pc (gI x :: st) L M n c (gx_lt x 0 kf kt) := fun h => by
  rcases gr_z2 (dk := gg_dk G) hd h with ⟨hN, hz⟩ | ⟨hN, hz⟩
  · exact gj_go hkf (fun p e R s m args below meth cd X cells slots cw ad H locs ls Q uL us ul kk => lv_if_ge X.1 X.2.1 hdg ht (fun hc => absurd hN (Int32.not_lt.mpr hc)) (fun hc => kk ls uL (gv_oks_tl us) ul)) hz
  · exact gj_go hkt (fun p e R s m args below meth cd X cells slots cw ad H locs ls Q uL us ul kk => lv_if_ge X.1 X.2.1 hdg ht (fun hc => kk ls uL (gv_oks_tl us) ul) (fun hc => absurd (Int32.not_lt.mp hN) hc)) hz
theorem gr_ifgt {tgt : Nat} {off : Int} (hd : gx_D (gg_dk G)) (hdg : decode (gy_b Y) pc = .ok (.ifCond .gt off, 3)) (ht : (pc : Int) + off = (tgt : Int)) (hkt : gxJ G Y K tgt st L M n c kt) (hkf : gxJ G Y K (pc + 3) st L M n c kf) : gxJ G Y K pc (gI x :: st) L M n c (gx_lt 0 x kt kf) := fun h => by
  rcases gr_z3 (dk := gg_dk G) hd h with ⟨hN, hz⟩ | ⟨hN, hz⟩
  · exact gj_go hkt (fun p e R s m args below meth cd X cells slots cw ad H locs ls Q uL us ul kk => lv_if_gt X.1 X.2.1 hdg ht (fun hc => kk ls uL (gv_oks_tl us) ul) (fun hc => absurd hN hc)) hz
  · exact gj_go hkf (fun p e R s m args below meth cd X cells slots cw ad H locs ls Q uL us ul kk => lv_if_gt X.1 X.2.1 hdg ht (fun hc => absurd hc hN) (fun hc => kk ls uL (gv_oks_tl us) ul)) hz
theorem gr_ifle {tgt : Nat} {off : Int} (hd : gx_D (gg_dk G)) (hdg : decode (gy_b Y) pc = .ok (.ifCond .le off, 3)) (ht : (pc : Int) + off = (tgt : Int)) (hkt : gxJ G Y K tgt st L M n c kt) (hkf : gxJ G Y K (pc + 3) st L M n c kf) : gxJ G Y K pc (gI x :: st) L M n c (gx_lt 0 x kf kt) := fun h => by
  rcases gr_z3 (dk := gg_dk G) hd h with ⟨hN, hz⟩ | ⟨hN, hz⟩
  · exact gj_go hkf (fun p e R s m args below meth cd X cells slots cw ad H locs ls Q uL us ul kk => lv_if_le X.1 X.2.1 hdg ht (fun hc => absurd hN (Int32.not_lt.mpr hc)) (fun hc => kk ls uL (gv_oks_tl us) ul)) hz
  · exact gj_go hkt (fun p e R s m args below meth cd X cells slots cw ad H locs ls Q uL us ul kk => lv_if_le X.1 X.2.1 hdg ht (fun hc => kk ls uL (gv_oks_tl us) ul) (fun hc => absurd (Int32.not_lt.mp hN) hc)) hz
theorem gr_dup {a b : gxV} (hdg : decode (gy_b Y) pc = .ok (.dup, 1)) (ha : gx_lg a = false) (hk : gxJ G Y K (pc + 1) (a :: a :: st) L M n c kt) : gxJ G Y K pc (a :: st) L M n c kt :=
  gj_go hk (fun p e R s m args below meth cd X cells slots cw ad H locs ls Q uL us ul kk => lv_dup X.1 X.2.1 hdg (gx_cat ha) (kk ls uL (gv_oks_cons (gv_oks_hd us) us) ul))
theorem gr_pop {a b : gxV} (hdg : decode (gy_b Y) pc = .ok (.pop, 1)) (ha : gx_lg a = false) (hk : gxJ G Y K (pc + 1) (st) L M n c kt) : gxJ G Y K pc (a :: st) L M n c kt :=
  gj_go hk (fun p e R s m args below meth cd X cells slots cw ad H locs ls Q uL us ul kk => lv_pop X.1 X.2.1 hdg (gx_cat ha) (kk ls uL (gv_oks_tl us) ul))
theorem gr_dup_x1 {a b : gxV} (hdg : decode (gy_b Y) pc = .ok (.dup_x1, 1)) (ha : gx_lg a = false) (hb : gx_lg b = false) (hk : gxJ G Y K (pc + 1) (a :: b :: a :: st) L M n c kt) : gxJ G Y K pc (a :: b :: st) L M n c kt :=
  gj_go hk (fun p e R s m args below meth cd X cells slots cw ad H locs ls Q uL us ul kk => lv_dup_x1 X.1 X.2.1 hdg (gx_cat ha) (gx_cat hb) (kk ls uL (gv_oks_cons (gv_oks_hd us) (gv_oks_cons (gv_oks_hd (gv_oks_tl us)) (gv_oks_cons (gv_oks_hd us) (gv_2 us)))) ul))
theorem gr_dup2_11 {a b : gxV} (hdg : decode (gy_b Y) pc = .ok (.dup2, 1)) (ha : gx_lg a = false) (hb : gx_lg b = false) (hk : gxJ G Y K (pc + 1) (a :: b :: a :: b :: st) L M n c kt) : gxJ G Y K pc (a :: b :: st) L M n c kt :=
  gj_go hk (fun p e R s m args below meth cd X cells slots cw ad H locs ls Q uL us ul kk => lv_dup2_11 X.1 X.2.1 hdg (gx_cat ha) (gx_cat hb) (kk ls uL (gv_oks_cons (gv_oks_hd us) (gv_oks_cons (gv_oks_hd (gv_oks_tl us)) us)) ul))
/-- a local counts -/
theorem gr_iinc {i d : Nat} {z : Int} {L' : Nat → List gxV} (hdg : decode (gy_b Y) pc = .ok (.iinc i z, 3)) (hz : Int32.ofInt z = nI d ∧ d < 4294967296) (hi : i < gy_l Y) (hx : L[i]? = some (gI x)) (hp : gx_pl L i = true) (hL : ∀ w, L.set i (gI w) = L' w) (hk : ∀ w, gxJ G Y K (pc + 3) st (L' w) M n c (k w)) : gxJ G Y K pc st L M n c (gx_add x d k) := fun h => by
  obtain ⟨w, hw, hN⟩ := go_add (dk := gg_dk G) h
  refine gj_go (hk w) (fun p e R s m args below meth cd X cells slots cw ad H locs ls Q uL us ul kk => ?_) hw
  have hm : (i, gx_den (gg_dk G) ad (gI x)) ∈ gx_ll (gg_dk G) ad 0 L := (gx_ll_mem L 0 _).mpr ⟨i, gI x, hx, rfl, by rw [Nat.zero_add]⟩
  obtain ⟨j, hj⟩ := List.getElem?_of_mem hm
  refine lv_iinc X.1 X.2.1 hdg uL hj (v := gx_N (gg_dk G) w) (by rw [hN, hz.1, gn_c hz.2]) hi rfl (fun ls' h' => ?_)
  rw [← hL] at kk
  exact kk ls' (gx_lc_set (v := gI w) hp h') us (gv_oks_set ul trivial)
/-- null? -/
noncomputable def gx_nul (x : Nat) (kt kf : Bool) : Bool := Bool.rec (motive := fun _ => Bool) kf kt (Nat.beq x 0)
theorem gx_rfn {ad : Nat → Nat} {x : Nat} (h : x ≠ 0) : gx_rf ad x = .ref (ad x) := if_neg h
theorem gr_ifnull {tgt t : Nat} {off : Int} (hdg : decode (gy_b Y) pc = .ok (.ifnull off, 3)) (ht : (pc : Int) + off = (tgt : Int)) (hkt : gxJ G Y K tgt st L M n c kt) (hkf : gxJ G Y K (pc + 3) st L M n c kf) : gxJ G Y K pc (gR t x :: st) L M n c (gx_nul x kt kf) := fun h => by
  rcases gb_true h with ⟨hc, h⟩ | ⟨hc, h⟩
  · have hx := gb_beq hc
    exact gj_go hkt (fun p e R s m args below meth cd X cells slots cw ad H locs ls Q uL us ul kk => by
      rw [List.map_cons, show gx_den (gg_dk G) ad (gR t x) = .null from if_pos hx]
      exact lv_ifnullN X.1 X.2.1 hdg ht (kk ls uL (gv_oks_tl us) ul)) h
  · have hx := gb_nbeq hc
    exact gj_go hkf (fun p e R s m args below meth cd X cells slots cw ad H locs ls Q uL us ul kk => by
      rw [List.map_cons, show gx_den (gg_dk G) ad (gR t x) = .ref (ad x) from if_neg hx]
      exact lv_ifnull X.1 X.2.1 hdg (kk ls uL (gv_oks_tl us) ul)) h
theorem gr_ifnonnull {tgt t : Nat} {off : Int} (hdg : decode (gy_b Y) pc = .ok (.ifnonnull off, 3)) (ht : (pc : Int) + off = (tgt : Int)) (hkt : gxJ G Y K tgt st L M n c kt) (hkf : gxJ G Y K (pc + 3) st L M n c kf) : gxJ G Y K pc (gR t x :: st) L M n c (gx_nul x kf kt) := fun h => by
  rcases gb_true h with ⟨hc, h⟩ | ⟨hc, h⟩
  · have hx := gb_beq hc
    exact gj_go hkf (fun p e R s m args below meth cd X cells slots cw ad H locs ls Q uL us ul kk => by
      rw [List.map_cons, show gx_den (gg_dk G) ad (gR t x) = .null from if_pos hx]
      exact lv_ifnonnullN X.1 X.2.1 hdg (kk ls uL (gv_oks_tl us) ul)) h
  · have hx := gb_nbeq hc
    exact gj_go hkt (fun p e R s m args below meth cd X cells slots cw ad H locs ls Q uL us ul kk => by
      rw [List.map_cons, show gx_den (gg_dk G) ad (gR t x) = .ref (ad x) from if_neg hx]
      exact lv_ifnonnull X.1 X.2.1 hdg ht (kk ls uL (gv_oks_tl us) ul)) h
end RL2
end
section
/-! RULES: what is read of the heap. -/
noncomputable def gx_get (x j M : Nat) (k : Nat → Bool) : Bool := Bool.rec (motive := fun _ => Bool) (k (gx_rd M (Nat.add x j))) false (Nat.beq x 0)
noncomputable def gx_ald (x i M : Nat) (k : Nat → Bool) : Bool := Bool.rec (motive := fun _ => Bool) (Bool.rec (motive := fun _ => Bool) false (k (gx_rd M (Nat.add x (Nat.succ i)))) (Nat.ble (Nat.succ i) (gx_rd M x))) false (Nat.beq x 0)
noncomputable def gx_len (x M : Nat) (k : Nat → Bool) : Bool := Bool.rec (motive := fun _ => Bool) (k (gx_rd M x)) false (Nat.beq x 0)
theorem gw (n : Nat) {w : Cond} (h : gx_tb[n]? = some w ∧ goodWord w = true) : w ∈ gx_ws := List.mem_filter.mpr ⟨List.mem_of_getElem? h.1, h.2⟩
set_option maxRecDepth 100000 in
set_option maxHeartbeats 4000000 in
theorem gk_0 : ∀ w ∈ u_ws RX0 TX0 8 ++ (u_ws RX1 TX1 1 ++ (u_ws RX2 TX2 4 ++ u_ws RX3 TX3 12)), w ∈ gx_ws := by decide +kernel
set_option maxRecDepth 100000 in
set_option maxHeartbeats 4000000 in
theorem gk_1 : ∀ w ∈ u_ws RX4 TX4 2 ++ (u_ws RX5 TX5 5 ++ (u_ws RX6 TX6 5 ++ u_ws RX7 TX7 16)), w ∈ gx_ws := by decide +kernel
set_option maxRecDepth 100000 in
set_option maxHeartbeats 4000000 in
theorem gk_2 : ∀ w ∈ u_ws RJ0 TJ0 4 ++ (u_ws RJ4 TJ4 4 ++ u_ws RL TL 5), w ∈ gx_ws := by decide +kernel
theorem gk_l {a b : List Cond} (h : ∀ w ∈ a ++ b, w ∈ gx_ws) : ∀ w ∈ a, w ∈ gx_ws := fun w hw => h w (List.mem_append_left _ hw)
theorem gk_r {a b : List Cond} (h : ∀ w ∈ a ++ b, w ∈ gx_ws) : ∀ w ∈ b, w ∈ gx_ws := fun w hw => h w (List.mem_append_right _ hw)
theorem gk {t : Nat} {C : String} {T : u_T} {N : Nat} (h : gx_cl[t]? = some (C, T, N)) : (∀ w ∈ u_ws C T N, w ∈ gx_ws) ∧ N = (gx_F t).length ∧ t < 64 := by
  match t, h with
  | 0, h => cases h; exact ⟨gk_l gk_0, rfl, by decide⟩
  | 1, h => cases h; exact ⟨gk_l (gk_r gk_0), rfl, by decide⟩
  | 2, h => cases h; exact ⟨gk_l (gk_r (gk_r gk_0)), rfl, by decide⟩
  | 3, h => cases h; exact ⟨gk_r (gk_r (gk_r gk_0)), rfl, by decide⟩
  | 4, h => cases h; exact ⟨gk_l gk_1, rfl, by decide⟩
  | 5, h => cases h; exact ⟨gk_l (gk_r gk_1), rfl, by decide⟩
  | 6, h => cases h; exact ⟨gk_l (gk_r (gk_r gk_1)), rfl, by decide⟩
  | 7, h => cases h; exact ⟨gk_r (gk_r (gk_r gk_1)), rfl, by decide⟩
  | 8, h => cases h; exact ⟨gk_l gk_2, rfl, by decide⟩
  | 9, h => cases h; exact ⟨gk_l (gk_r gk_2), rfl, by decide⟩
  | 10, h => cases h; exact ⟨gk_r (gk_r gk_2), rfl, by decide⟩
  | t + 11, h => simp [gx_cl] at h
section RDS
variable {G : gxG} {Y : gxY} {K : Nat → Nat → Nat → Nat → Bool} {pc : Nat} {st L : List gxV} {M n c x i : Nat} {e : Bool} {k : Nat → Bool}
theorem gj_go2 {pc' : Nat} {st' L' : List gxV} (hk : gxJ G Y K pc' st' L' M n c e)
    (hrow : ∀ (p : Program) (e : Env) (R : Room) (s : State) (m : MethodId) (args : Array Value) (below : List Frame) (meth : Method) (cd : Code), gxX G Y p R s m args meth cd →
      ∀ (cells slots : Nat) (cw : List gxq) (ad : Nat → Nat) (H : Heap) (locs : List Loc) (ls : Array Slot) (Q : State → Prop), gxI G ad cw M n H → va_S (gxA G) s.heap H locs → gx_lc (gg_dk G) ad (gy_l Y) ls L → gv_oks (gg_cr G ++ cw) st → gv_oks (gg_cr G ++ cw) L →
        (∀ ls' : Array Slot, gx_lc (gg_dk G) ad (gy_l Y) ls' L' → gv_oks (gg_cr G ++ cw) st' → gv_oks (gg_cr G ++ cw) L' → W p (gg_l G) e R s m args below meth cd H locs cells slots Q (F0 m pc' ls' (st'.map (gx_den (gg_dk G) ad)))) →
        W p (gg_l G) e R s m args below meth cd H locs cells slots Q (F0 m pc ls (st.map (gx_den (gg_dk G) ad)))) : gxJ G Y K pc st L M n c e := by
  intro h
  obtain ⟨v, M', n', c', h1, h2, h3, h4, kk⟩ := hk h
  refine ⟨v, M', n', c', h1, h2, h3, h4, fun p e R s m args below meth cd X c0 n0 cw0 ad0 hc hn cells slots cw ad H locs ls U => ?_⟩
  obtain ⟨u1, u2, uI, ua, ud, uS, uL, us, ul⟩ := U
  exact hrow p e R s m args below meth cd X cells slots cw ad H locs ls _ uI uS uL us ul (fun ls' a b d => kk p e R s m args below meth cd X c0 n0 cw0 ad0 hc hn cells slots cw ad H locs ls' ⟨u1, u2, uI, ua, ud, uS, a, b, d⟩)
theorem gs_find {cs : List gxq} {t x : Nat} (h : gv_ok cs (gR t x)) (h0 : x ≠ 0) : ∃ z ∈ cs, z.1 = x ∧ z.2.1 = t := by
  rcases h with h | h
  · exact absurd h h0
  · exact h
theorem gs_ref {dk ad : Nat → Nat} {t x : Nat} (h0 : x ≠ 0) : gx_den dk ad (gR t x) = .ref (ad x) := if_neg h0
/-- a cell of the world, alone -/
theorem gs_one {G : gxG} {ad : Nat → Nat} {cw : List gxq} {H : Heap} {z : gxq} (hI : gxI G ad cw M n H) (hz : z ∈ cw) : va_P (gg_D G) gx_cl [(ad z.1, gx_cel G ad M z)] H := by
  obtain ⟨j, hj⟩ := List.getElem?_of_mem hz
  intro k q hq
  cases k with
  | succ k => simp at hq
  | zero =>
    have hq : (ad z.1, gx_cel G ad M z) = q := by simpa using hq
    subst hq
    exact hI.2.1 j _ (by rw [List.getElem?_map, hj]; rfl)
theorem gs_obj {G : gxG} {ad : Nat → Nat} {z : gxq} (h : z.2.1 < 64) : gx_cel G ad M z = .inr (z.2.1, (List.range z.2.2).map (fun j => gx_den (gg_dk G) ad (gx_sv M z j))) := if_pos h
theorem gs_sv {z : gxq} {j σ : Nat} (h : z.2.1 < 64) (hσ : (gx_F z.2.1)[j]? = some σ) : gx_sv M z j = gx_sl σ (gx_rd M (z.1 + j)) := by
  unfold gx_sv gx_ss gx_sa
  rw [if_pos h, if_pos h, List.getD_eq_getElem?_getD, hσ]
  rfl
/-- a cell that nobody writes holds what it held -/
theorem gs_ro {G : gxG} {ad : Nat → Nat} {cw : List gxq} {H : Heap} {z : gxq} {j : Nat} (hI : gxI G ad cw M n H) (hz : z ∈ gg_cr G) (hx : z.1 + gx_ex z ≤ 128) (hj : j < z.2.2) : gx_sv M z j = gx_sv (gg_M G) z j := by
  obtain ⟨a1, a2⟩ := gx_sa_in hj
  exact gx_sv_eq (hI.2.2.2.2.2.2.2.1 _ (by omega))
theorem gr_getf {index t j σ : Nat} {sv : Nat → gxV} {C : String} {T : u_T} {N : Nat} (hdg : decode (gy_b Y) pc = .ok (.getfield index, 3)) (ht : gx_cl[t]? = some (C, T, N)) (hσ : (gx_F t)[j]? = some σ) (hsv : ∀ v, gx_sl σ v = sv v) (hlink : Cond.fieldLink (gy_o Y) index (T j).1 (T j).2.1 (T j).2.2.1 ∈ gx_ws) (h8 : t = 8 → j < 2)
    (hk : ∀ v, gxJ G Y K (pc + 3) (sv v :: st) L M n c (k v)) : gxJ G Y K pc (gR t x :: st) L M n c (gx_get x j M k) := fun h => by
  obtain ⟨hx, h⟩ := gb_f h
  have hx := gb_nbeq hx
  refine gj_go2 (hk (gx_rd M (x + j))) (fun p e R s m args below meth cd X cells slots cw ad H locs ls Q uI uS uL us ul kk => ?_) h
  obtain ⟨g1, g2, g3⟩ := gk ht
  have hjl : j < (gx_F t).length := (List.getElem?_eq_some_iff.mp hσ).1
  obtain ⟨z, hz, z1, z2⟩ := gs_find (gv_oks_hd us) hx
  subst z1
  subst z2
  rw [List.map_cons, gs_ref hx]
  obtain ⟨x1, x2, x3, x4, x5, x6, x7, ⟨x8, x9, x10⟩, x11, x12⟩ := X
  have es : gx_sv M z j = sv (gx_rd M (z.1 + j)) := by rw [gs_sv g3 hσ, hsv]
  rcases List.mem_append.mp hz with hz | hz
  · obtain ⟨r1, r2, r3, r4⟩ := x9 z hz
    obtain ⟨r5, r6, r7⟩ := r3 g3
    obtain ⟨r5, r55⟩ := r5
    obtain ⟨r8, r9⟩ := r7 j (h8 r5)
    have ee : gx_sv M z j = gx_sv (gg_M G) z j := gs_ro uI hz r2 (by rw [r55]; exact h8 r5)
    have w := kk ls uL (gv_oks_cons (by rw [← es, ee]; exact gv_ok_sub r9 (fun q hq => List.mem_append_left _ hq)) (gv_oks_tl us)) ul
    rw [List.map_cons, ← es, ee, gx_den_agr (ad := gg_ad G) r9 (fun q hq => uI.2.2.2.2.2.2.2.2.2 q hq)] at w
    rw [uI.2.2.2.2.2.2.2.2.2 z hz]
    have e8 : T = TJ0 := by rw [r5] at ht; cases ht; rfl
    subst e8
    refine vk_getf x1 x2 r8 uS x5 (x6 _ hlink) (fun _ h => h) hdg w
  · have hP := gs_one uI hz
    have ok := uI.2.2.2.2.2.1 z hz j (by rw [(uI.2.2.2.2.1 z hz).2.2.1 g3]; exact hjl)
    have w := kk ls uL (gv_oks_cons (by rw [← es]; exact ok) (gv_oks_tl us)) ul
    rw [List.map_cons, ← es] at w
    refine va_get (D := gg_D G) (cl := gx_cl) (tys := gx_tys (gg_cT G)) x1 x2 x6 g1 x5 x11 hP 0 (fs := (List.range z.2.2).map (fun j => gx_den (gg_dk G) ad (gx_sv M z j))) (by rw [gs_obj g3]; rfl) ht j (by omega) (x6 _ hlink) (fun _ h => h) (v := gx_den (gg_dk G) ad (gx_sv M z j)) ?_ hdg w
    rw [List.getElem?_map, List.getElem?_range (by rw [(uI.2.2.2.2.1 z hz).2.2.1 g3]; exact hjl)]
    rfl
theorem gr_getfN {host : String} {index t j σ : Nat} {sv : Nat → gxV} {C : String} {T : u_T} {N : Nat} (hdg : decode (gy_b Y) pc = .ok (.getfield index, 3)) (ht : gx_cl[t]? = some (C, T, N)) (hσ : (gx_F t)[j]? = some σ) (hsv : ∀ v, gx_sl σ v = sv v) (hlink : Cond.fieldLinkNest (gy_o Y) index (T j).1 (T j).2.1 (T j).2.2.1 host ∈ gx_ws) (h8 : t ≠ 8)
    (hk : ∀ v, gxJ G Y K (pc + 3) (sv v :: st) L M n c (k v)) : gxJ G Y K pc (gR t x :: st) L M n c (gx_get x j M k) := fun h => by
  obtain ⟨hx, h⟩ := gb_f h
  have hx := gb_nbeq hx
  refine gj_go2 (hk (gx_rd M (x + j))) (fun p e R s m args below meth cd X cells slots cw ad H locs ls Q uI uS uL us ul kk => ?_) h
  obtain ⟨g1, g2, g3⟩ := gk ht
  have hjl : j < (gx_F t).length := (List.getElem?_eq_some_iff.mp hσ).1
  obtain ⟨z, hz, z1, z2⟩ := gs_find (gv_oks_hd us) hx
  subst z1
  subst z2
  rw [List.map_cons, gs_ref hx]
  obtain ⟨x1, x2, x3, x4, x5, x6, x7, ⟨x8, x9, x10⟩, x11, x12⟩ := X
  have es : gx_sv M z j = sv (gx_rd M (z.1 + j)) := by rw [gs_sv g3 hσ, hsv]
  rcases List.mem_append.mp hz with hz | hz
  · obtain ⟨r1, r2, r3, r4⟩ := x9 z hz
    obtain ⟨⟨r5, -⟩, -⟩ := r3 g3
    exact absurd r5 h8
  · have hP := gs_one uI hz
    have ok := uI.2.2.2.2.2.1 z hz j (by rw [(uI.2.2.2.2.1 z hz).2.2.1 g3]; exact hjl)
    have w := kk ls uL (gv_oks_cons (by rw [← es]; exact ok) (gv_oks_tl us)) ul
    rw [List.map_cons, ← es] at w
    refine va_getN (D := gg_D G) (cl := gx_cl) (tys := gx_tys (gg_cT G)) x1 x2 x6 g1 x5 x11 hP 0 (fs := (List.range z.2.2).map (fun j => gx_den (gg_dk G) ad (gx_sv M z j))) (by rw [gs_obj g3]; rfl) ht j (by omega) (x6 _ hlink) (fun _ h => h) (v := gx_den (gg_dk G) ad (gx_sv M z j)) ?_ hdg w
    rw [List.getElem?_map, List.getElem?_range (by rw [(uI.2.2.2.2.1 z hz).2.2.1 g3]; exact hjl)]
    rfl
theorem gs_sa {z : gxq} {κ i : Nat} (h : z.2.1 = 64 + κ) : gx_sa z i = Nat.add z.1 (Nat.succ i) := by
  unfold gx_sa
  rw [if_neg (by omega)]
  show z.1 + 1 + i = z.1 + (i + 1)
  omega
theorem gs_arr {G : gxG} {ad : Nat → Nat} {z : gxq} {κ : Nat} (h : z.2.1 = 64 + κ) : gx_cel G ad M z = .inl (gg_cT G κ, gx_elm (gg_dk G) ad M z) := by
  unfold gx_cel
  rw [if_neg (by omega), show z.2.1 - 64 = κ by omega]
theorem gs_elmi {dk ad : Nat → Nat} {z : gxq} {κ : Nat} (h : z.2.1 = 64 + κ) (hk : gx_ks κ < 4) : gx_elm dk ad M z = (z.2.2, .inl (fun j => if j < z.2.2 then gx_N dk (gx_rd M (gx_sa z j)) else 0)) := by
  unfold gx_elm
  rw [show z.2.1 - 64 = κ by omega, if_pos hk]
theorem gs_elml {dk ad : Nat → Nat} {z : gxq} {κ : Nat} (h : z.2.1 = 64 + κ) (hk : gx_ks κ = 4) : gx_elm dk ad M z = (z.2.2, .inr (.inl (fun j => if j < z.2.2 then lN (gx_rd M (gx_sa z j)) else 0))) := by
  unfold gx_elm
  rw [show z.2.1 - 64 = κ by omega, if_neg (by omega), if_pos hk]
theorem gs_elmr {dk ad : Nat → Nat} {z : gxq} {κ : Nat} (h : z.2.1 = 64 + κ) (hk : 4 < gx_ks κ) : gx_elm dk ad M z = (z.2.2, .inr (.inr (.inr (.inr (fun j => if j < z.2.2 then (if gx_rd M (gx_sa z j) = 0 then none else some (ad (gx_rd M (gx_sa z j)))) else none))))) := by
  unfold gx_elm
  rw [show z.2.1 - 64 = κ by omega, if_neg (by omega), if_neg (by omega)]
theorem gs_svk {z : gxq} {κ i : Nat} (h : z.2.1 = 64 + κ) : gx_sv M z i = gx_sl (gx_ks κ) (gx_rd M (Nat.add z.1 (Nat.succ i))) := by
  unfold gx_sv gx_ss
  rw [if_neg (by omega), show z.2.1 - 64 = κ by omega, gs_sa h]
theorem gs_exk {z : gxq} {κ : Nat} (h : z.2.1 = 64 + κ) : gx_ex z = z.2.2 + 1 := if_neg (by omega)
theorem gr_iald (hdg : decode (gy_b Y) pc = .ok (.iaload, 1)) (hk : ∀ v, gxJ G Y K (pc + 1) (gI v :: st) L M n c (k v)) : gxJ G Y K pc (gI i :: gR 64 x :: st) L M n c (gx_ald x i M k) := fun h => by
  obtain ⟨hx, h⟩ := gb_f h
  obtain ⟨hi, h⟩ := gb_t h
  have hx := gb_nbeq hx
  have hi : i + 1 ≤ gx_rd M x := gb_ble hi
  refine gj_go2 (hk (gx_rd M (Nat.add x (Nat.succ i)))) (fun p e R s m args below meth cd X cells slots cw ad H locs ls Q uI uS uL us ul kk => ?_) h
  obtain ⟨z, hz, z1, z2⟩ := gs_find (gv_oks_hd (gv_oks_tl us)) hx
  subst z1
  rw [List.map_cons, List.map_cons, gs_ref hx]
  obtain ⟨x1, x2, x3, x4, x5, x6, x7, ⟨x8, x9, x10⟩, x11, x12⟩ := X
  have w := kk ls uL (gv_oks_cons trivial (gv_oks_tl (gv_oks_tl us))) ul
  rw [List.map_cons] at w
  rcases List.mem_append.mp hz with hz | hz
  · obtain ⟨r1, r2, r3, r4⟩ := x9 z hz
    obtain ⟨r5, r6, r7, r8⟩ := r4 (by omega) (by omega)
    have hl : gx_rd M z.1 = z.2.2 := by rw [uI.2.2.2.2.2.2.2.1 _ (by rw [gs_exk (κ := 0) z2] at r2; omega), r7]
    have hil : i < z.2.2 := by omega
    rw [show gx_den (gg_dk G) ad (gI i) = .int (nI i) from congrArg Value.int (gn_c (by omega)), uI.2.2.2.2.2.2.2.2.2 z hz]
    rw [show z.2.1 - 64 = 0 by omega] at r8
    refine va_ti x1 x2 r8 uS (nI_in hil (by omega)) ?_ hdg w
    rw [nI_clamp (by omega), ← gs_ro uI hz r2 hil, gs_svk (κ := 0) z2]
    rfl
  · have hP := gs_one uI hz
    have hq := uI.2.2.2.2.1 z hz
    have hl := (hq.2.2.2 (by omega)).1
    have hn := uI.2.2.2.2.2.2.2.2.1
    rw [gs_exk (κ := 0) z2] at hq
    have hil : i < z.2.2 := by omega
    rw [show gx_den (gg_dk G) ad (gI i) = .int (nI i) from congrArg Value.int (gn_c (by omega))]
    rw [gs_arr (κ := 0) z2, gs_elmi (κ := 0) z2 (by decide)] at hP
    refine va_iald (D := gg_D G) (cl := gx_cl) (tys := gx_tys (gg_cT G)) x1 x2 x11 hP 0 0 rfl rfl (nI_in hil (by omega)) hdg ?_
    rw [nI_clamp (by omega), if_pos hil, gs_sa (κ := 0) z2]
    exact w
theorem gr_cald (hdg : decode (gy_b Y) pc = .ok (.caload, 1)) (hk : ∀ v, gxJ G Y K (pc + 1) (gI v :: st) L M n c (k v)) : gxJ G Y K pc (gI i :: gR 65 x :: st) L M n c (gx_ald x i M k) := fun h => by
  obtain ⟨hx, h⟩ := gb_f h
  obtain ⟨hi, h⟩ := gb_t h
  have hx := gb_nbeq hx
  have hi : i + 1 ≤ gx_rd M x := gb_ble hi
  refine gj_go2 (hk (gx_rd M (Nat.add x (Nat.succ i)))) (fun p e R s m args below meth cd X cells slots cw ad H locs ls Q uI uS uL us ul kk => ?_) h
  obtain ⟨z, hz, z1, z2⟩ := gs_find (gv_oks_hd (gv_oks_tl us)) hx
  subst z1
  rw [List.map_cons, List.map_cons, gs_ref hx]
  obtain ⟨x1, x2, x3, x4, x5, x6, x7, ⟨x8, x9, x10⟩, x11, x12⟩ := X
  have w := kk ls uL (gv_oks_cons trivial (gv_oks_tl (gv_oks_tl us))) ul
  rw [List.map_cons] at w
  rcases List.mem_append.mp hz with hz | hz
  · obtain ⟨r1, r2, r3, r4⟩ := x9 z hz
    obtain ⟨r5, r6, r7, r8⟩ := r4 (by omega) (by omega)
    have hl : gx_rd M z.1 = z.2.2 := by rw [uI.2.2.2.2.2.2.2.1 _ (by rw [gs_exk (κ := 1) z2] at r2; omega), r7]
    have hil : i < z.2.2 := by omega
    rw [show gx_den (gg_dk G) ad (gI i) = .int (nI i) from congrArg Value.int (gn_c (by omega)), uI.2.2.2.2.2.2.2.2.2 z hz]
    rw [show z.2.1 - 64 = 1 by omega] at r8
    refine va_tc x1 x2 r8 uS (nI_in hil (by omega)) ?_ hdg w
    rw [nI_clamp (by omega), ← gs_ro uI hz r2 hil, gs_svk (κ := 1) z2]
    rfl
  · have hP := gs_one uI hz
    have hq := uI.2.2.2.2.1 z hz
    have hl := (hq.2.2.2 (by omega)).1
    have hn := uI.2.2.2.2.2.2.2.2.1
    rw [gs_exk (κ := 1) z2] at hq
    have hil : i < z.2.2 := by omega
    rw [show gx_den (gg_dk G) ad (gI i) = .int (nI i) from congrArg Value.int (gn_c (by omega))]
    rw [gs_arr (κ := 1) z2, gs_elmi (κ := 1) z2 (by decide)] at hP
    refine va_cald (D := gg_D G) (cl := gx_cl) (tys := gx_tys (gg_cT G)) x1 x2 x11 hP 0 1 rfl rfl (nI_in hil (by omega)) hdg ?_
    rw [nI_clamp (by omega), if_pos hil, gs_sa (κ := 1) z2]
    exact w
theorem gr_zald (hdg : decode (gy_b Y) pc = .ok (.baload, 1)) (hk : ∀ v, gxJ G Y K (pc + 1) (gI v :: st) L M n c (k v)) : gxJ G Y K pc (gI i :: gR 66 x :: st) L M n c (gx_ald x i M k) := fun h => by
  obtain ⟨hx, h⟩ := gb_f h
  obtain ⟨hi, h⟩ := gb_t h
  have hx := gb_nbeq hx
  have hi : i + 1 ≤ gx_rd M x := gb_ble hi
  refine gj_go2 (hk (gx_rd M (Nat.add x (Nat.succ i)))) (fun p e R s m args below meth cd X cells slots cw ad H locs ls Q uI uS uL us ul kk => ?_) h
  obtain ⟨z, hz, z1, z2⟩ := gs_find (gv_oks_hd (gv_oks_tl us)) hx
  subst z1
  rw [List.map_cons, List.map_cons, gs_ref hx]
  obtain ⟨x1, x2, x3, x4, x5, x6, x7, ⟨x8, x9, x10⟩, x11, x12⟩ := X
  have w := kk ls uL (gv_oks_cons trivial (gv_oks_tl (gv_oks_tl us))) ul
  rw [List.map_cons] at w
  rcases List.mem_append.mp hz with hz | hz
  · obtain ⟨r1, r2, r3, r4⟩ := x9 z hz
    obtain ⟨r5, r6, r7, r8⟩ := r4 (by omega) (by omega)
    have hl : gx_rd M z.1 = z.2.2 := by rw [uI.2.2.2.2.2.2.2.1 _ (by rw [gs_exk (κ := 2) z2] at r2; omega), r7]
    have hil : i < z.2.2 := by omega
    rw [show gx_den (gg_dk G) ad (gI i) = .int (nI i) from congrArg Value.int (gn_c (by omega)), uI.2.2.2.2.2.2.2.2.2 z hz]
    rw [show z.2.1 - 64 = 2 by omega] at r8
    refine va_tz x1 x2 r8 uS (nI_in hil (by omega)) ?_ hdg w
    rw [nI_clamp (by omega), ← gs_ro uI hz r2 hil, gs_svk (κ := 2) z2]
    rfl
  · have hP := gs_one uI hz
    have hq := uI.2.2.2.2.1 z hz
    have hl := (hq.2.2.2 (by omega)).1
    have hn := uI.2.2.2.2.2.2.2.2.1
    rw [gs_exk (κ := 2) z2] at hq
    have hil : i < z.2.2 := by omega
    rw [show gx_den (gg_dk G) ad (gI i) = .int (nI i) from congrArg Value.int (gn_c (by omega))]
    rw [gs_arr (κ := 2) z2, gs_elmi (κ := 2) z2 (by decide)] at hP
    refine va_zald (D := gg_D G) (cl := gx_cl) (tys := gx_tys (gg_cT G)) x1 x2 x11 hP 0 2 rfl rfl (nI_in hil (by omega)) hdg ?_
    rw [nI_clamp (by omega), if_pos hil, gs_sa (κ := 2) z2]
    exact w
theorem gr_bald (hdg : decode (gy_b Y) pc = .ok (.baload, 1)) (hk : ∀ v, gxJ G Y K (pc + 1) (gI v :: st) L M n c (k v)) : gxJ G Y K pc (gI i :: gR 67 x :: st) L M n c (gx_ald x i M k) := fun h => by
  obtain ⟨hx, h⟩ := gb_f h
  obtain ⟨hi, h⟩ := gb_t h
  have hx := gb_nbeq hx
  have hi : i + 1 ≤ gx_rd M x := gb_ble hi
  refine gj_go2 (hk (gx_rd M (Nat.add x (Nat.succ i)))) (fun p e R s m args below meth cd X cells slots cw ad H locs ls Q uI uS uL us ul kk => ?_) h
  obtain ⟨z, hz, z1, z2⟩ := gs_find (gv_oks_hd (gv_oks_tl us)) hx
  subst z1
  rw [List.map_cons, List.map_cons, gs_ref hx]
  obtain ⟨x1, x2, x3, x4, x5, x6, x7, ⟨x8, x9, x10⟩, x11, x12⟩ := X
  have w := kk ls uL (gv_oks_cons trivial (gv_oks_tl (gv_oks_tl us))) ul
  rw [List.map_cons] at w
  rcases List.mem_append.mp hz with hz | hz
  · obtain ⟨r1, r2, r3, r4⟩ := x9 z hz
    obtain ⟨r5, r6, r7, r8⟩ := r4 (by omega) (by omega)
    have hl : gx_rd M z.1 = z.2.2 := by rw [uI.2.2.2.2.2.2.2.1 _ (by rw [gs_exk (κ := 3) z2] at r2; omega), r7]
    have hil : i < z.2.2 := by omega
    rw [show gx_den (gg_dk G) ad (gI i) = .int (nI i) from congrArg Value.int (gn_c (by omega)), uI.2.2.2.2.2.2.2.2.2 z hz]
    rw [show z.2.1 - 64 = 3 by omega] at r8
    refine va_tb x1 x2 r8 uS (nI_in hil (by omega)) ?_ hdg w
    rw [nI_clamp (by omega), ← gs_ro uI hz r2 hil, gs_svk (κ := 3) z2]
    rfl
  · have hP := gs_one uI hz
    have hq := uI.2.2.2.2.1 z hz
    have hl := (hq.2.2.2 (by omega)).1
    have hn := uI.2.2.2.2.2.2.2.2.1
    rw [gs_exk (κ := 3) z2] at hq
    have hil : i < z.2.2 := by omega
    rw [show gx_den (gg_dk G) ad (gI i) = .int (nI i) from congrArg Value.int (gn_c (by omega))]
    rw [gs_arr (κ := 3) z2, gs_elmi (κ := 3) z2 (by decide)] at hP
    refine va_bald (D := gg_D G) (cl := gx_cl) (tys := gx_tys (gg_cT G)) x1 x2 x11 hP 0 3 rfl rfl (nI_in hil (by omega)) hdg ?_
    rw [nI_clamp (by omega), if_pos hil, gs_sa (κ := 3) z2]
    exact w
theorem gr_lald (hdg : decode (gy_b Y) pc = .ok (.laload, 1)) (hk : ∀ v, gxJ G Y K (pc + 1) (gL v :: st) L M n c (k v)) : gxJ G Y K pc (gI i :: gR 68 x :: st) L M n c (gx_ald x i M k) := fun h => by
  obtain ⟨hx, h⟩ := gb_f h
  obtain ⟨hi, h⟩ := gb_t h
  have hx := gb_nbeq hx
  have hi : i + 1 ≤ gx_rd M x := gb_ble hi
  refine gj_go2 (hk (gx_rd M (Nat.add x (Nat.succ i)))) (fun p e R s m args below meth cd X cells slots cw ad H locs ls Q uI uS uL us ul kk => ?_) h
  obtain ⟨z, hz, z1, z2⟩ := gs_find (gv_oks_hd (gv_oks_tl us)) hx
  subst z1
  rw [List.map_cons, List.map_cons, gs_ref hx]
  obtain ⟨x1, x2, x3, x4, x5, x6, x7, ⟨x8, x9, x10⟩, x11, x12⟩ := X
  have w := kk ls uL (gv_oks_cons trivial (gv_oks_tl (gv_oks_tl us))) ul
  rw [List.map_cons] at w
  rcases List.mem_append.mp hz with hz | hz
  · obtain ⟨r1, r2, r3, r4⟩ := x9 z hz
    obtain ⟨r5, r6, r7, r8⟩ := r4 (by omega) (by omega)
    omega
  · have hP := gs_one uI hz
    have hq := uI.2.2.2.2.1 z hz
    have hl := (hq.2.2.2 (by omega)).1
    have hn := uI.2.2.2.2.2.2.2.2.1
    rw [gs_exk (κ := 4) z2] at hq
    have hil : i < z.2.2 := by omega
    rw [show gx_den (gg_dk G) ad (gI i) = .int (nI i) from congrArg Value.int (gn_c (by omega))]
    rw [gs_arr (κ := 4) z2, gs_elml (κ := 4) z2 rfl] at hP
    refine va_lald (D := gg_D G) (cl := gx_cl) (tys := gx_tys (gg_cT G)) x1 x2 x11 hP 0 4 rfl rfl (nI_in hil (by omega)) hdg ?_
    rw [nI_clamp (by omega), if_pos hil, gs_sa (κ := 4) z2]
    exact w
theorem gr_aald {κ t : Nat} {C : String} (hdg : decode (gy_b Y) pc = .ok (.aaload, 1)) (hκ : 4 < κ ∧ κ < 8 ∧ gx_ks κ = 8 + t) (hC : (gx_tys (gg_cT G))[κ]? = some (gg_cT G κ, .object C)) (hk : ∀ v, gxJ G Y K (pc + 1) (gR t v :: st) L M n c (k v)) : gxJ G Y K pc (gI i :: gR (64 + κ) x :: st) L M n c (gx_ald x i M k) := fun h => by
  obtain ⟨hx, h⟩ := gb_f h
  obtain ⟨hi, h⟩ := gb_t h
  have hx := gb_nbeq hx
  have hi : i + 1 ≤ gx_rd M x := gb_ble hi
  refine gj_go2 (hk (gx_rd M (Nat.add x (Nat.succ i)))) (fun p e R s m args below meth cd X cells slots cw ad H locs ls Q uI uS uL us ul kk => ?_) h
  obtain ⟨z, hz, z1, z2⟩ := gs_find (gv_oks_hd (gv_oks_tl us)) hx
  subst z1
  rw [List.map_cons, List.map_cons, gs_ref hx]
  obtain ⟨x1, x2, x3, x4, x5, x6, x7, ⟨x8, x9, x10⟩, x11, x12⟩ := X
  rcases List.mem_append.mp hz with hz | hz
  · obtain ⟨r1, r2, r3, r4⟩ := x9 z hz
    obtain ⟨r5, r6, r7, r8⟩ := r4 (by omega) (by omega)
    omega
  · have hP := gs_one uI hz
    have hq := uI.2.2.2.2.1 z hz
    have hl := (hq.2.2.2 (by omega)).1
    have hn := uI.2.2.2.2.2.2.2.2.1
    rw [gs_exk (κ := κ) z2] at hq
    have hil : i < z.2.2 := by omega
    have ok := uI.2.2.2.2.2.1 z hz i hil
    rw [gs_svk (κ := κ) z2, hκ.2.2, gx_sl, if_neg (by omega), if_neg (by omega), show 8 + t - 8 = t by omega] at ok
    have w := kk ls uL (gv_oks_cons ok (gv_oks_tl (gv_oks_tl us))) ul
    rw [List.map_cons] at w
    rw [show gx_den (gg_dk G) ad (gI i) = .int (nI i) from congrArg Value.int (gn_c (by omega))]
    rw [gs_arr (κ := κ) z2, gs_elmr (κ := κ) z2 (by omega)] at hP
    refine va_aldq (D := gg_D G) (cl := gx_cl) (tys := gx_tys (gg_cT G)) x1 x2 x11 hP 0 κ rfl hC (nI_in hil (by omega)) hdg ?_
    rw [nI_clamp (by omega), if_pos hil, gs_sa (κ := κ) z2]
    have e : va_rf (if gx_rd M (Nat.add z.1 (Nat.succ i)) = 0 then none else some (ad (gx_rd M (Nat.add z.1 (Nat.succ i))))) = gx_den (gg_dk G) ad (gR t (gx_rd M (Nat.add z.1 (Nat.succ i)))) := by
      show _ = gx_rf ad _
      unfold gx_rf
      split <;> rfl
    rw [e]
    exact w
theorem gr_alen {κ : Nat} (hdg : decode (gy_b Y) pc = .ok (.arraylength, 1)) (hκ : κ < 8) (hk : ∀ v, gxJ G Y K (pc + 1) (gI v :: st) L M n c (k v)) : gxJ G Y K pc (gR (64 + κ) x :: st) L M n c (gx_len x M k) := fun h => by
  obtain ⟨hx, h⟩ := gb_f h
  have hx := gb_nbeq hx
  refine gj_go2 (hk (gx_rd M x)) (fun p e R s m args below meth cd X cells slots cw ad H locs ls Q uI uS uL us ul kk => ?_) h
  obtain ⟨z, hz, z1, z2⟩ := gs_find (gv_oks_hd us) hx
  subst z1
  rw [List.map_cons, gs_ref hx]
  obtain ⟨x1, x2, x3, x4, x5, x6, x7, ⟨x8, x9, x10⟩, x11, x12⟩ := X
  have w := kk ls uL (gv_oks_cons trivial (gv_oks_tl us)) ul
  rw [List.map_cons] at w
  rcases List.mem_append.mp hz with hz | hz
  · obtain ⟨r1, r2, r3, r4⟩ := x9 z hz
    obtain ⟨r5, r6, r7, r8⟩ := r4 (by omega) (by omega)
    have hl : gx_rd M z.1 = z.2.2 := by rw [uI.2.2.2.2.2.2.2.1 _ (by rw [gs_exk (κ := κ) z2] at r2; omega), r7]
    rw [uI.2.2.2.2.2.2.2.2.2 z hz]
    refine va_tlen x1 x2 r8 uS (v := gx_N (gg_dk G) (gx_rd M z.1)) ?_ hdg w
    rw [hl, gn_c (by omega)]
    rfl
  · have hP := gs_one uI hz
    have hq := uI.2.2.2.2.1 z hz
    have hl := (hq.2.2.2 (by omega)).1
    have hn := uI.2.2.2.2.2.2.2.2.1
    rw [gs_exk (κ := κ) z2] at hq
    rw [gs_arr (κ := κ) z2] at hP
    have hC : (gx_tys (gg_cT G))[κ]? = some (gg_cT G κ, gx_ty κ) := by
      have : κ = 0 ∨ κ = 1 ∨ κ = 2 ∨ κ = 3 ∨ κ = 4 ∨ κ = 5 ∨ κ = 6 ∨ κ = 7 := by omega
      rcases this with rfl | rfl | rfl | rfl | rfl | rfl | rfl | rfl <;> rfl
    refine va_alen (D := gg_D G) (cl := gx_cl) (tys := gx_tys (gg_cT G)) x1 x2 x11 hP 0 κ rfl hC (v := gx_N (gg_dk G) (gx_rd M z.1)) ?_ hdg w
    rw [hl, gn_c (by omega)]
    rfl
end RDS
end
section
/-! RULES: what is written in the heap, what is made there (printed by wip/p47/gen_writes.py). -/
noncomputable def gx_f0 (v : Nat) : Bool := Nat.ble v 281474976710655
noncomputable def gx_f1 (v : Nat) : Bool := Bool.rec (motive := fun _ => Bool) (Bool.and (gx_f0 v) (gx_in v 0 65535)) true (Nat.ble v 65535)
noncomputable def gx_f2 (v : Nat) : Bool := Nat.ble v 1
noncomputable def gx_f3 (v : Nat) : Bool := Bool.rec (motive := fun _ => Bool) (Bool.and (gx_f0 v) (gx_in v 0 127)) true (Nat.ble v 127)
noncomputable def gx_put (x j v M : Nat) (f : Nat → Bool) (k : Nat → Bool) : Bool := Bool.rec (motive := fun _ => Bool) false (Bool.rec (motive := fun _ => Bool) false (k (gx_wr M (Nat.add x j) v)) (f v)) (Nat.ble 128 x)
noncomputable def gx_ast (x i v M : Nat) (f : Nat → Bool) (k : Nat → Bool) : Bool := Bool.rec (motive := fun _ => Bool) false (Bool.rec (motive := fun _ => Bool) false (Bool.rec (motive := fun _ => Bool) false (k (gx_wr M (Nat.add x (Nat.succ i)) v)) (Nat.ble (Nat.succ i) (gx_rd M x))) (f v)) (Nat.ble 128 x)
noncomputable def gx_new (sz n c : Nat) (k : Nat → Nat → Nat → Bool) : Bool := Bool.rec (motive := fun _ => Bool) false (k n (Nat.add n sz) (Nat.succ c)) (Nat.ble n 1000000)
noncomputable def gx_nea (ln M n c : Nat) (k : Nat → Nat → Nat → Nat → Bool) : Bool := Bool.rec (motive := fun _ => Bool) false (k n (gx_wr M n ln) (Nat.add n (Nat.succ ln)) (Nat.succ c)) (Bool.and (Nat.ble ln 4096) (Nat.ble n 1000000))
/-- a number that a slot of this type can hold -/
def gf_ok (dk : Nat → Nat) (f : Nat → Bool) (ty : FieldType) : Prop := ∀ v, f v = true → v < 281474976710656 ∧ narrow ty (.int (gx_N dk v)) = .int (gx_N dk v) ∧ fits ty (.int (gx_N dk v)) = true
theorem gf_0 {dk : Nat → Nat} : gf_ok dk gx_f0 .int := fun v h => by
  have := gb_ble h
  exact ⟨by omega, rfl, rfl⟩
theorem gf_1 {dk : Nat → Nat} (hd : gx_D dk) : gf_ok dk gx_f1 .char := fun v h => by
  have key : ∃ z : Nat, z < 65536 ∧ gx_N dk v = nI z ∧ v < 281474976710656 := by
    rcases gb_true h with ⟨hc, -⟩ | ⟨-, h⟩
    · have := gb_ble hc
      exact ⟨v, by omega, gn_c (by omega), by omega⟩
    · obtain ⟨h1, h2⟩ := go_and h
      have := gb_ble h1
      obtain ⟨z, z1, z2, z3, -⟩ := gn_in hd h2
      exact ⟨z, by omega, z3, by omega⟩
  obtain ⟨z, z1, z2, z3⟩ := key
  rw [z2]
  exact ⟨z3, pk_charN z1⟩
theorem gf_2 {dk : Nat → Nat} : gf_ok dk gx_f2 .boolean := fun v h => by
  have := gb_ble h
  have e : v = 0 ∨ v = 1 := by omega
  rcases e with rfl | rfl
  · rw [gn_c (by decide)]; exact ⟨by decide, by decide +kernel, by decide +kernel⟩
  · rw [gn_c (by decide)]; exact ⟨by decide, by decide +kernel, by decide +kernel⟩
theorem gf_3 {dk : Nat → Nat} (hd : gx_D dk) : gf_ok dk gx_f3 .byte := fun v h => by
  have key : ∃ z : Nat, z < 128 ∧ gx_N dk v = nI z ∧ v < 281474976710656 := by
    rcases gb_true h with ⟨hc, -⟩ | ⟨-, h⟩
    · have := gb_ble hc
      exact ⟨v, by omega, gn_c (by omega), by omega⟩
    · obtain ⟨h1, h2⟩ := go_and h
      have := gb_ble h1
      obtain ⟨z, z1, z2, z3, -⟩ := gn_in hd h2
      exact ⟨z, by omega, z3, by omega⟩
  obtain ⟨z, z1, z2, z3⟩ := key
  rw [z2]
  have k2 : ∀ z : Fin 128, narrow .byte (.int (nI z.val)) = .int (nI z.val) ∧ fits .byte (.int (nI z.val)) = true := by decide +kernel
  exact ⟨z3, k2 ⟨z, z1⟩⟩
theorem gf_nar {dk : Nat → Nat} {ty : FieldType} {v : Nat} (h : narrow ty (.int (gx_N dk v)) = .int (gx_N dk v)) : vp_nar ty (gx_N dk v) = gx_N dk v := by
  unfold vp_nar
  rw [h]
section WRS
variable {G : gxG} {Y : gxY} {K : Nat → Nat → Nat → Nat → Bool} {pc : Nat} {st L : List gxV} {M n c x i v : Nat} {e : Bool} {k : Nat → Bool}
theorem gj_go3 {pc' M1 n1 c1 : Nat} {e1 : Bool} {st' L' : List gxV} (hk : gxJ G Y K pc' st' L' M1 n1 c1 e1) (hn1 : n ≤ n1) (hc1 : c ≤ c1)
    (hrow : ∀ (p : Program) (e : Env) (R : Room) (s : State) (m : MethodId) (args : Array Value) (below : List Frame) (meth : Method) (cd : Code), gxX G Y p R s m args meth cd →
      ∀ (cells slots : Nat) (cw : List gxq) (ad : Nat → Nat) (H : Heap) (locs : List Loc) (ls : Array Slot) (Q : State → Prop), gxI G ad cw M n H → va_S (gxA G) s.heap H locs → gx_lc (gg_dk G) ad (gy_l Y) ls L → gv_oks (gg_cr G ++ cw) st → gv_oks (gg_cr G ++ cw) L → cells + (c1 - c) ≤ R.cells → slots + (n1 - n) ≤ R.slots →
        (∀ (cw' : List gxq) (ad' : Nat → Nat) (H' : Heap) (locs' : List Loc) (ls' : Array Slot), gx_sb cw cw' → gx_agr cw ad ad' → gxI G ad' cw' M1 n1 H' → va_S (gxA G) s.heap H' locs' → gx_lc (gg_dk G) ad' (gy_l Y) ls' L' → gv_oks (gg_cr G ++ cw') st' → gv_oks (gg_cr G ++ cw') L' → W p (gg_l G) e R s m args below meth cd H' locs' (cells + (c1 - c)) (slots + (n1 - n)) Q (F0 m pc' ls' (st'.map (gx_den (gg_dk G) ad')))) →
        W p (gg_l G) e R s m args below meth cd H locs cells slots Q (F0 m pc ls (st.map (gx_den (gg_dk G) ad)))) (he : e1 = true) : gxJ G Y K pc st L M n c e := by
  intro _
  obtain ⟨v, M', n', c', h1, h2, h3, h4, kk⟩ := hk he
  refine ⟨v, M', n', c', h1, Nat.le_trans hn1 h2, Nat.le_trans hc1 h3, h4, fun p e R s m args below meth cd X c0 n0 cw0 ad0 hc hn cells slots cw ad H locs ls U => ?_⟩
  obtain ⟨u1, u2, uI, ua, ud, uS, uL, us, ul⟩ := U
  exact hrow p e R s m args below meth cd X cells slots cw ad H locs ls _ uI uS uL us ul (by omega) (by omega) (fun cw' ad' H' locs' ls' b1 b2 b3 b4 b5 b6 b7 => kk p e R s m args below meth cd X c0 n0 cw0 ad0 hc hn (cells + (c1 - c)) (slots + (n1 - n)) cw' ad' H' locs' ls' ⟨by omega, by omega, b3, gx_agr_tr ud ua b2, gx_sb_tr ud b1, b4, b5, b6, b7⟩)
theorem gs_old {Y : gxY} {p : Program} {R : Room} {s : State} {m : MethodId} {args : Array Value} {meth : Method} {cd : Code} {H : Heap} {locs : List Loc} (X : gxX G Y p R s m args meth cd) (hS : va_S (gxA G) s.heap H locs) : gg_lo G ≤ H.size ∧ ∀ q : Nat, q < gg_lo G → H[q]? = (gg_s G).heap[q]? := by
  obtain ⟨-, -, -, -, -, -, -, -, -, ⟨h1, h2⟩, -⟩ := X
  refine ⟨Nat.le_trans h1 hS.1, fun q hq => ?_⟩
  rw [hS.2.1 q (by omega) (by omega), h2 q hq]
/-- behind a write into a slot of a cell of the world -/
theorem gs_put {ad : Nat → Nat} {cw : List gxq} {H H1 : Heap} {z : gxq} {q0 j : Nat} (hI : gxI G ad cw M n H) (hq : cw[q0]? = some z) (hj : j < z.2.2) (hv : v < 281474976710656) (hok : gv_ok (gg_cr G ++ cw) (gx_sl (gx_ss z j) v))
    (h1 : gg_lo G ≤ H1.size ∧ ∀ q : Nat, q < gg_lo G → H1[q]? = (gg_s G).heap[q]?)
    (hP : va_P (gg_D G) gx_cl ((cw.map fun q => (ad q.1, gx_cel G ad M q)).set q0 (ad z.1, gx_cel G ad (gx_wr M (gx_sa z j) v) z)) H1) : gxI G ad cw (gx_wr M (gx_sa z j) v) n H1 := by
  obtain ⟨i1, i2, i3, i4, i5, i6, i7, i8, i9, i10⟩ := hI
  have hzm : z ∈ cw := List.mem_of_getElem? hq
  obtain ⟨a1, a2⟩ := gx_sa_in hj
  obtain ⟨z1, z2, z3, z4⟩ := i5 z hzm
  have other : ∀ q ∈ cw, q ≠ z → ∀ b, q.1 ≤ b → b < q.1 + gx_ex q → gx_rd (gx_wr M (gx_sa z j) v) b = gx_rd M b := by
    intro q hqm hne b b1 b2
    refine gh_ne hv ?_
    rcases i4 q hqm z hzm with h | h | h
    · exact absurd h hne
    · omega
    · omega
  have cel : ∀ q ∈ cw, q ≠ z → gx_cel G ad (gx_wr M (gx_sa z j) v) q = gx_cel G ad M q := fun q hqm hne => gx_cel_eq fun b hb => by
    obtain ⟨b1, b2⟩ := gx_sa_in hb
    exact other q hqm hne _ b1 b2
  have hmap : (cw.map fun q => (ad q.1, gx_cel G ad M q)).set q0 (ad z.1, gx_cel G ad (gx_wr M (gx_sa z j) v) z) = cw.map fun q => (ad q.1, gx_cel G ad (gx_wr M (gx_sa z j) v) q) := by
    apply List.ext_getElem?
    intro b
    rw [List.getElem?_set, List.getElem?_map, List.getElem?_map]
    by_cases hb : q0 = b
    · subst hb
      obtain ⟨hl, he⟩ := List.getElem?_eq_some_iff.mp hq
      simp [hl, he]
    · rw [if_neg hb]
      cases hc : cw[b]? with
      | none => rfl
      | some q =>
        show some _ = some _
        by_cases hqz : q = z
        · subst hqz
          exact absurd (i3.1 q0 b _ _ (by rw [List.getElem?_map, hq]; rfl) (by rw [List.getElem?_map, hc]; rfl) rfl) hb
        · exact congrArg (fun w => some (ad q.1, w)) (cel q (List.mem_of_getElem? hc) hqz).symm
  rw [hmap] at hP
  refine ⟨h1, hP, ?_, i4, ?_, ?_, ?_, ?_, i9, i10⟩
  · refine ⟨fun b d p q hp hq2 hpq => ?_, fun b q hq2 => ?_⟩
    · rw [List.getElem?_map] at hp hq2
      cases hb : cw[b]? with
      | none => rw [hb] at hp; cases hp
      | some p' =>
        cases hd : cw[d]? with
        | none => rw [hd] at hq2; cases hq2
        | some q' =>
          rw [hb] at hp
          rw [hd] at hq2
          cases hp
          cases hq2
          exact i3.1 b d (ad p'.1, gx_cel G ad M p') (ad q'.1, gx_cel G ad M q') (by rw [List.getElem?_map, hb]; rfl) (by rw [List.getElem?_map, hd]; rfl) hpq
    · rw [List.getElem?_map] at hq2
      cases hb : cw[b]? with
      | none => rw [hb] at hq2; cases hq2
      | some q' =>
        rw [hb] at hq2
        cases hq2
        exact i3.2 b (ad q'.1, gx_cel G ad M q') (by rw [List.getElem?_map, hb]; rfl)
  · intro q hqm
    obtain ⟨g1, g2, g3, g4⟩ := i5 q hqm
    refine ⟨g1, g2, g3, fun h64 => ?_⟩
    obtain ⟨g5, g6⟩ := g4 h64
    refine ⟨?_, g6⟩
    have hex : gx_ex q = q.2.2 + 1 := if_neg (by omega)
    by_cases hqz : q = z
    · subst hqz
      rw [gh_ne hv (by unfold gx_sa; rw [if_neg (by omega)]; omega), g5]
    · rw [other q hqm hqz q.1 (Nat.le_refl _) (by omega), g5]
  · intro q hqm b hb
    by_cases hqz : q = z
    · subst hqz
      by_cases hbj : b = j
      · subst hbj
        rw [gx_sv_at, gh_same hv]
        exact hok
      · rw [gx_sv_eq (gh_ne hv (by unfold gx_sa; split <;> omega))]
        exact i6 q hqm b hb
    · obtain ⟨b1, b2⟩ := gx_sa_in hb
      rw [gx_sv_eq (other q hqm hqz _ b1 b2)]
      exact i6 q hqm b hb
  · intro a ha
    rw [gh_ne hv (by omega)]
    exact i7 a ha
  · intro a ha
    rw [gh_ne hv (by omega)]
    exact i8 a ha
theorem gs_fs {ad : Nat → Nat} {M v j : Nat} {z : gxq} (h64 : z.2.1 < 64) (hj : j < z.2.2) (hv : v < 281474976710656) : gx_cel G ad (gx_wr M (gx_sa z j) v) z = .inr (z.2.1, ((List.range z.2.2).map (fun j => gx_den (gg_dk G) ad (gx_sv M z j))).set j (gx_den (gg_dk G) ad (gx_sl (gx_ss z j) v))) := by
  rw [gs_obj h64]
  refine congrArg (fun w => Sum.inr (z.2.1, w)) ?_
  apply List.ext_getElem?
  intro b
  rw [List.getElem?_set, List.getElem?_map, List.getElem?_map]
  by_cases hb : b < z.2.2
  · rw [List.getElem?_range hb]
    by_cases hbj : j = b
    · subst hbj
      rw [if_pos rfl]
      simp only [List.length_map, List.length_range, Option.map_some]
      rw [if_pos hb, gx_sv_at, gh_same hv]
    · rw [if_neg hbj]
      exact congrArg (fun w => some (gx_den (gg_dk G) ad w)) (gx_sv_eq (gh_ne hv (show gx_sa z j ≠ gx_sa z b by unfold gx_sa; rw [if_pos h64, if_pos h64]; omega)))
  · rw [List.getElem?_eq_none (by simp; omega)]
    by_cases hbj : j = b
    · omega
    · rw [if_neg hbj]
      rfl
theorem gk_ty {t : Nat} {C : String} {T : u_T} {N : Nat} (h : gx_cl[t]? = some (C, T, N)) : (∃ ty0 : Nat → FieldType, ∀ k, k < N → parseFieldDescriptor (T k).2.2.1 = some (ty0 k)) ∧ ∀ a, a < N → ∀ b, b < N → a ≠ b → (T a).2.1 ≠ (T b).2.1 := by
  match t, h with
  | 0, h => cases h; exact ⟨⟨_, tyX0_ok⟩, nmX0⟩
  | 1, h => cases h; exact ⟨⟨_, tyX1_ok⟩, nmX1⟩
  | 2, h => cases h; exact ⟨⟨_, tyX2_ok⟩, nmX2⟩
  | 3, h => cases h; exact ⟨⟨_, tyX3_ok⟩, nmX3⟩
  | 4, h => cases h; exact ⟨⟨_, tyX4_ok⟩, nmX4⟩
  | 5, h => cases h; exact ⟨⟨_, tyX5_ok⟩, nmX5⟩
  | 6, h => cases h; exact ⟨⟨_, tyX6_ok⟩, nmX6⟩
  | 7, h => cases h; exact ⟨⟨_, tyX7_ok⟩, nmX7⟩
  | 8, h => cases h; exact ⟨⟨_, tyJ0_ok⟩, nmJ0⟩
  | 9, h => cases h; exact ⟨⟨_, tyJ4_ok⟩, nmJ4⟩
  | 10, h => cases h; exact ⟨⟨_, tyL_ok⟩, nmL⟩
  | t + 11, h => simp [gx_cl] at h
/-- the value fits the field -/
def gf_v (G : gxG) (f : Nat → Bool) (ty : FieldType) (sv : Nat → gxV) : Prop := ∀ (ad : Nat → Nat) (v : Nat), f v = true → v < 281474976710656 ∧ narrow ty (gx_den (gg_dk G) ad (sv v)) = gx_den (gg_dk G) ad (sv v) ∧ fits ty (gx_den (gg_dk G) ad (sv v)) = true
theorem gv_0 : gf_v G gx_f0 .int gI := fun _ v h => gf_0 v h
theorem gv_1 (hd : gx_D (gg_dk G)) : gf_v G gx_f1 .char gI := fun _ v h => gf_1 hd v h
theorem gv_2f : gf_v G gx_f2 .boolean gI := fun _ v h => gf_2 v h
theorem gv_3 (hd : gx_D (gg_dk G)) : gf_v G gx_f3 .byte gI := fun _ v h => gf_3 hd v h
theorem gv_4 : gf_v G gx_f0 .long gL := fun _ v h => ⟨by have := gb_ble h; omega, rfl, rfl⟩
theorem gv_o {C : String} {t : Nat} : gf_v G gx_f0 (.object C) (gR t) := fun ad v h => ⟨by have := gb_ble h; omega, rfl, by
  rcases gx_rf2 (gg_dk G) ad t v with h | ⟨a, h⟩ <;> rw [h] <;> rfl⟩
theorem gv_a {ty : FieldType} {t : Nat} : gf_v G gx_f0 (.array ty) (gR t) := fun ad v h => ⟨by have := gb_ble h; omega, rfl, by
  rcases gx_rf2 (gg_dk G) ad t v with h | ⟨a, h⟩ <;> rw [h] <;> rfl⟩
theorem gr_putf {index t j σ : Nat} {sv : Nat → gxV} {f : Nat → Bool} {C : String} {T : u_T} {N : Nat} {ty : FieldType} (hdg : decode (gy_b Y) pc = .ok (.putfield index, 3)) (ht : gx_cl[t]? = some (C, T, N)) (hσ : (gx_F t)[j]? = some σ) (hsv : ∀ v, gx_sl σ v = sv v) (hlink : Cond.fieldLink (gy_o Y) index (T j).1 (T j).2.1 (T j).2.2.1 ∈ gx_ws) (hty : parseFieldDescriptor (T j).2.2.1 = some ty) (hf : gf_v G f ty sv) (hfin : (T j).2.2.2 = false)
    (hk : ∀ M1, gxJ G Y K (pc + 3) st L M1 n c (k M1)) : gxJ G Y K pc (sv v :: gR t x :: st) L M n c (gx_put x j v M f k) := fun h => by
  obtain ⟨hx, h⟩ := gb_t h
  obtain ⟨hfv, h⟩ := gb_t h
  have hx := gb_ble hx
  refine gj_go3 (hk (gx_wr M (x + j) v)) (Nat.le_refl _) (Nat.le_refl _) (fun p e R s m args below meth cd X cells slots cw ad H locs ls Q uI uS uL us ul hc9 hn9 kk => ?_) h rfl
  obtain ⟨g1, g2, g3⟩ := gk ht
  obtain ⟨⟨ty0, g4⟩, g5⟩ := gk_ty ht
  have hjl : j < (gx_F t).length := (List.getElem?_eq_some_iff.mp hσ).1
  obtain ⟨z, hz, z1, z2⟩ := gs_find (gv_oks_hd (gv_oks_tl us)) (by omega)
  subst z1
  subst z2
  rw [List.map_cons, List.map_cons, gs_ref (by omega)]
  have X0 := X
  obtain ⟨x1, x2, x3, x4, x5, x6, x7, ⟨x8, x9, x10⟩, x11, x12⟩ := X
  rcases List.mem_append.mp hz with hz | hz
  · obtain ⟨r1, r2, r3, r4⟩ := x9 z hz
    obtain ⟨⟨r5, r6⟩, -⟩ := r3 g3
    have : gx_ex z = z.2.2 := if_pos g3
    omega
  · obtain ⟨q0, hq0⟩ := List.getElem?_of_mem hz
    have hjz : j < z.2.2 := by rw [(uI.2.2.2.2.1 z hz).2.2.1 g3]; exact hjl
    obtain ⟨f1, f2, f3⟩ := hf ad v hfv
    have es : gx_sl (gx_ss z j) v = sv v := by
      unfold gx_ss
      rw [if_pos g3, List.getD_eq_getElem?_getD, hσ]
      exact hsv v
    have esa : gx_sa z j = z.1 + j := if_pos g3
    refine va_put (D := gg_D G) (cl := gx_cl) (tys := gx_tys (gg_cT G)) x1 x2 x6 g1 ty0 g4 g5 x5 x11 uI.2.1 uI.2.2.1 uS q0 (a := ad z.1) (fs := (List.range z.2.2).map (fun j => gx_den (gg_dk G) ad (gx_sv M z j))) (by rw [List.getElem?_map, hq0]; show some (_, gx_cel G ad M z) = _; rw [gs_obj g3]) ht j (by omega) (x6 _ hlink) (fun _ h => h) hfin hty f2 f3 (by simp; exact hjz) hdg (fun H1 locs1 hP hD hS => ?_)
    rw [← es, ← gs_fs g3 hjz f1] at hP
    have I1 := gs_put uI hq0 hjz f1 (by rw [es]; exact gv_oks_hd us) (gs_old X0 hS) hP
    rw [esa] at I1
    have w := kk cw ad H1 locs1 ls gx_sb_rf gx_agr_rf I1 hS uL (gv_2 us) ul
    rw [Nat.sub_self, Nat.sub_self, Nat.add_zero, Nat.add_zero] at w
    exact w
theorem gr_putF {index t j σ : Nat} {sv : Nat → gxV} {f : Nat → Bool} {C : String} {T : u_T} {N : Nat} {ty : FieldType} (hdg : decode (gy_b Y) pc = .ok (.putfield index, 3)) (ht : gx_cl[t]? = some (C, T, N)) (hσ : (gx_F t)[j]? = some σ) (hsv : ∀ v, gx_sl σ v = sv v) (hlink : Cond.fieldLink (gy_o Y) index (T j).1 (T j).2.1 (T j).2.2.1 ∈ gx_ws) (hty : parseFieldDescriptor (T j).2.2.1 = some ty) (hf : gf_v G f ty sv) (hfin : (T j).2.2.2 = true) (hin2 : ∀ (p : Program) (R : Room) (s : State) (m : MethodId) (args : Array Value) (meth : Method) (cd : Code), gxX G Y p R s m args meth cd → meth.name = "<init>") (hdecl : (T j).1 = gy_o Y)
    (hk : ∀ M1, gxJ G Y K (pc + 3) st L M1 n c (k M1)) : gxJ G Y K pc (sv v :: gR t x :: st) L M n c (gx_put x j v M f k) := fun h => by
  obtain ⟨hx, h⟩ := gb_t h
  obtain ⟨hfv, h⟩ := gb_t h
  have hx := gb_ble hx
  refine gj_go3 (hk (gx_wr M (x + j) v)) (Nat.le_refl _) (Nat.le_refl _) (fun p e R s m args below meth cd X cells slots cw ad H locs ls Q uI uS uL us ul hc9 hn9 kk => ?_) h rfl
  obtain ⟨g1, g2, g3⟩ := gk ht
  obtain ⟨⟨ty0, g4⟩, g5⟩ := gk_ty ht
  have hjl : j < (gx_F t).length := (List.getElem?_eq_some_iff.mp hσ).1
  obtain ⟨z, hz, z1, z2⟩ := gs_find (gv_oks_hd (gv_oks_tl us)) (by omega)
  subst z1
  subst z2
  rw [List.map_cons, List.map_cons, gs_ref (by omega)]
  have X0 := X
  obtain ⟨x1, x2, x3, x4, x5, x6, x7, ⟨x8, x9, x10⟩, x11, x12⟩ := X
  rcases List.mem_append.mp hz with hz | hz
  · obtain ⟨r1, r2, r3, r4⟩ := x9 z hz
    obtain ⟨⟨r5, r6⟩, -⟩ := r3 g3
    have : gx_ex z = z.2.2 := if_pos g3
    omega
  · obtain ⟨q0, hq0⟩ := List.getElem?_of_mem hz
    have hjz : j < z.2.2 := by rw [(uI.2.2.2.2.1 z hz).2.2.1 g3]; exact hjl
    obtain ⟨f1, f2, f3⟩ := hf ad v hfv
    have es : gx_sl (gx_ss z j) v = sv v := by
      unfold gx_ss
      rw [if_pos g3, List.getD_eq_getElem?_getD, hσ]
      exact hsv v
    have esa : gx_sa z j = z.1 + j := if_pos g3
    refine va_putF (D := gg_D G) (cl := gx_cl) (tys := gx_tys (gg_cT G)) x1 x2 x6 g1 ty0 g4 g5 x5 x11 uI.2.1 uI.2.2.1 uS q0 (a := ad z.1) (fs := (List.range z.2.2).map (fun j => gx_den (gg_dk G) ad (gx_sv M z j))) (by rw [List.getElem?_map, hq0]; show some (_, gx_cel G ad M z) = _; rw [gs_obj g3]) ht j (by omega) (x6 _ hlink) (fun _ h => h) hfin (hin2 p R s m args meth cd X0) hdecl hty f2 f3 (by simp; exact hjz) hdg (fun H1 locs1 hP hD hS => ?_)
    rw [← es, ← gs_fs g3 hjz f1] at hP
    have I1 := gs_put uI hq0 hjz f1 (by rw [es]; exact gv_oks_hd us) (gs_old X0 hS) hP
    rw [esa] at I1
    have w := kk cw ad H1 locs1 ls gx_sb_rf gx_agr_rf I1 hS uL (gv_2 us) ul
    rw [Nat.sub_self, Nat.sub_self, Nat.add_zero, Nat.add_zero] at w
    exact w
theorem gr_putfN {host : String} {index t j σ : Nat} {sv : Nat → gxV} {f : Nat → Bool} {C : String} {T : u_T} {N : Nat} {ty : FieldType} (hdg : decode (gy_b Y) pc = .ok (.putfield index, 3)) (ht : gx_cl[t]? = some (C, T, N)) (hσ : (gx_F t)[j]? = some σ) (hsv : ∀ v, gx_sl σ v = sv v) (hlink : Cond.fieldLinkNest (gy_o Y) index (T j).1 (T j).2.1 (T j).2.2.1 host ∈ gx_ws) (hty : parseFieldDescriptor (T j).2.2.1 = some ty) (hf : gf_v G f ty sv) (hfin : (T j).2.2.2 = false)
    (hk : ∀ M1, gxJ G Y K (pc + 3) st L M1 n c (k M1)) : gxJ G Y K pc (sv v :: gR t x :: st) L M n c (gx_put x j v M f k) := fun h => by
  obtain ⟨hx, h⟩ := gb_t h
  obtain ⟨hfv, h⟩ := gb_t h
  have hx := gb_ble hx
  refine gj_go3 (hk (gx_wr M (x + j) v)) (Nat.le_refl _) (Nat.le_refl _) (fun p e R s m args below meth cd X cells slots cw ad H locs ls Q uI uS uL us ul hc9 hn9 kk => ?_) h rfl
  obtain ⟨g1, g2, g3⟩ := gk ht
  obtain ⟨⟨ty0, g4⟩, g5⟩ := gk_ty ht
  have hjl : j < (gx_F t).length := (List.getElem?_eq_some_iff.mp hσ).1
  obtain ⟨z, hz, z1, z2⟩ := gs_find (gv_oks_hd (gv_oks_tl us)) (by omega)
  subst z1
  subst z2
  rw [List.map_cons, List.map_cons, gs_ref (by omega)]
  have X0 := X
  obtain ⟨x1, x2, x3, x4, x5, x6, x7, ⟨x8, x9, x10⟩, x11, x12⟩ := X
  rcases List.mem_append.mp hz with hz | hz
  · obtain ⟨r1, r2, r3, r4⟩ := x9 z hz
    obtain ⟨⟨r5, r6⟩, -⟩ := r3 g3
    have : gx_ex z = z.2.2 := if_pos g3
    omega
  · obtain ⟨q0, hq0⟩ := List.getElem?_of_mem hz
    have hjz : j < z.2.2 := by rw [(uI.2.2.2.2.1 z hz).2.2.1 g3]; exact hjl
    obtain ⟨f1, f2, f3⟩ := hf ad v hfv
    have es : gx_sl (gx_ss z j) v = sv v := by
      unfold gx_ss
      rw [if_pos g3, List.getD_eq_getElem?_getD, hσ]
      exact hsv v
    have esa : gx_sa z j = z.1 + j := if_pos g3
    refine va_putN (D := gg_D G) (cl := gx_cl) (tys := gx_tys (gg_cT G)) x1 x2 x6 g1 ty0 g4 g5 x5 x11 uI.2.1 uI.2.2.1 uS q0 (a := ad z.1) (fs := (List.range z.2.2).map (fun j => gx_den (gg_dk G) ad (gx_sv M z j))) (by rw [List.getElem?_map, hq0]; show some (_, gx_cel G ad M z) = _; rw [gs_obj g3]) ht j (by omega) (x6 _ hlink) (fun _ h => h) hfin hty f2 f3 (by simp; exact hjz) hdg (fun H1 locs1 hP hD hS => ?_)
    rw [← es, ← gs_fs g3 hjz f1] at hP
    have I1 := gs_put uI hq0 hjz f1 (by rw [es]; exact gv_oks_hd us) (gs_old X0 hS) hP
    rw [esa] at I1
    have w := kk cw ad H1 locs1 ls gx_sb_rf gx_agr_rf I1 hS uL (gv_2 us) ul
    rw [Nat.sub_self, Nat.sub_self, Nat.add_zero, Nat.add_zero] at w
    exact w
theorem gr_iast (hd : gx_D (gg_dk G)) (hdg : decode (gy_b Y) pc = .ok (.iastore, 1)) (hk : ∀ M1, gxJ G Y K (pc + 1) st L M1 n c (k M1)) : gxJ G Y K pc (gI v :: gI i :: gR 64 x :: st) L M n c (gx_ast x i v M gx_f0 k) := fun h => by
  obtain ⟨hx, h⟩ := gb_t h
  obtain ⟨hfv, h⟩ := gb_t h
  obtain ⟨hi, h⟩ := gb_t h
  have hx := gb_ble hx
  have hi : i + 1 ≤ gx_rd M x := gb_ble hi
  refine gj_go3 (hk (gx_wr M (Nat.add x (Nat.succ i)) v)) (Nat.le_refl _) (Nat.le_refl _) (fun p e R s m args below meth cd X cells slots cw ad H locs ls Q uI uS uL us ul hc9 hn9 kk => ?_) h rfl
  obtain ⟨z, hz, z1, z2⟩ := gs_find (gv_oks_hd (gv_2 us)) (by omega)
  subst z1
  rw [List.map_cons, List.map_cons, List.map_cons, gs_ref (by omega)]
  have X0 := X
  obtain ⟨x1, x2, x3, x4, x5, x6, x7, ⟨x8, x9, x10⟩, x11, x12⟩ := X
  rcases List.mem_append.mp hz with hz | hz
  · obtain ⟨r1, r2, r3, r4⟩ := x9 z hz
    rw [gs_exk (κ := 0) z2] at r2
    omega
  · obtain ⟨q0, hq0⟩ := List.getElem?_of_mem hz
    have hq := uI.2.2.2.2.1 z hz
    have hl := (hq.2.2.2 (by omega)).1
    have hn := uI.2.2.2.2.2.2.2.2.1
    rw [gs_exk (κ := 0) z2] at hq
    have hil : i < z.2.2 := by omega
    obtain ⟨f1, f2, f3⟩ := gv_0 (G := G) ad v hfv
    rw [show gx_den (gg_dk G) ad (gI i) = .int (nI i) from congrArg Value.int (gn_c (by omega))]
    refine va_iast (D := gg_D G) (cl := gx_cl) (tys := gx_tys (gg_cT G)) x1 x2 x11 uI.2.1 uI.2.2.1 uS q0 0 (a := ad z.1) (cA := gg_cT G 0) (n := z.2.2) (f := fun j => if j < z.2.2 then gx_N (gg_dk G) (gx_rd M (gx_sa z j)) else 0) (by rw [List.getElem?_map, hq0]; show some (_, gx_cel G ad M z) = _; rw [gs_arr (κ := 0) z2, gs_elmi (κ := 0) z2 (by decide)]) rfl (nI_in hil (by omega)) hdg (fun H1 locs1 hP hD hS => ?_)
    have ec : gx_cel G ad (gx_wr M (gx_sa z i) v) z = .inl (gg_cT G 0, (z.2.2, .inl (upd (fun j => if j < z.2.2 then gx_N (gg_dk G) (gx_rd M (gx_sa z j)) else 0) (nI i).toNatClampNeg (gx_N (gg_dk G) v)))) := by
      rw [gs_arr (κ := 0) z2, gs_elmi (κ := 0) z2 (by decide)]
      refine congrArg (fun w => Sum.inl (gg_cT G 0, (z.2.2, Sum.inl w))) (funext fun b => ?_)
      rw [nI_clamp (by omega)]
      show _ = if b = i then _ else _
      by_cases hb : b = i
      · subst hb
        rw [if_pos hil, if_pos rfl, gh_same f1]
      · rw [if_neg hb]
        show _ = if b < z.2.2 then gx_N (gg_dk G) (gx_rd M (gx_sa z b)) else 0
        by_cases hbl : b < z.2.2
        · rw [if_pos hbl, if_pos hbl, gh_ne f1 (by rw [gs_sa (κ := 0) z2, gs_sa (κ := 0) z2]; show z.1 + (i + 1) ≠ z.1 + (b + 1); omega)]
        · rw [if_neg hbl, if_neg hbl]
    rw [← ec] at hP
    have I1 := gs_put uI hq0 hil f1 (by unfold gx_ss; rw [if_neg (by omega), show z.2.1 - 64 = 0 by omega]; trivial) (gs_old X0 hS) hP
    rw [gs_sa (κ := 0) z2] at I1
    have w := kk cw ad H1 locs1 ls gx_sb_rf gx_agr_rf I1 hS uL (gv_oks_tl (gv_2 us)) ul
    rw [Nat.sub_self, Nat.sub_self, Nat.add_zero, Nat.add_zero] at w
    exact w
theorem gr_cast (hd : gx_D (gg_dk G)) (hdg : decode (gy_b Y) pc = .ok (.castore, 1)) (hk : ∀ M1, gxJ G Y K (pc + 1) st L M1 n c (k M1)) : gxJ G Y K pc (gI v :: gI i :: gR 65 x :: st) L M n c (gx_ast x i v M gx_f1 k) := fun h => by
  obtain ⟨hx, h⟩ := gb_t h
  obtain ⟨hfv, h⟩ := gb_t h
  obtain ⟨hi, h⟩ := gb_t h
  have hx := gb_ble hx
  have hi : i + 1 ≤ gx_rd M x := gb_ble hi
  refine gj_go3 (hk (gx_wr M (Nat.add x (Nat.succ i)) v)) (Nat.le_refl _) (Nat.le_refl _) (fun p e R s m args below meth cd X cells slots cw ad H locs ls Q uI uS uL us ul hc9 hn9 kk => ?_) h rfl
  obtain ⟨z, hz, z1, z2⟩ := gs_find (gv_oks_hd (gv_2 us)) (by omega)
  subst z1
  rw [List.map_cons, List.map_cons, List.map_cons, gs_ref (by omega)]
  have X0 := X
  obtain ⟨x1, x2, x3, x4, x5, x6, x7, ⟨x8, x9, x10⟩, x11, x12⟩ := X
  rcases List.mem_append.mp hz with hz | hz
  · obtain ⟨r1, r2, r3, r4⟩ := x9 z hz
    rw [gs_exk (κ := 1) z2] at r2
    omega
  · obtain ⟨q0, hq0⟩ := List.getElem?_of_mem hz
    have hq := uI.2.2.2.2.1 z hz
    have hl := (hq.2.2.2 (by omega)).1
    have hn := uI.2.2.2.2.2.2.2.2.1
    rw [gs_exk (κ := 1) z2] at hq
    have hil : i < z.2.2 := by omega
    obtain ⟨f1, f2, f3⟩ := gv_1 (G := G) hd ad v hfv
    rw [show gx_den (gg_dk G) ad (gI i) = .int (nI i) from congrArg Value.int (gn_c (by omega))]
    refine va_cast (D := gg_D G) (cl := gx_cl) (tys := gx_tys (gg_cT G)) x1 x2 x11 uI.2.1 uI.2.2.1 uS q0 1 (a := ad z.1) (cA := gg_cT G 1) (n := z.2.2) (f := fun j => if j < z.2.2 then gx_N (gg_dk G) (gx_rd M (gx_sa z j)) else 0) (by rw [List.getElem?_map, hq0]; show some (_, gx_cel G ad M z) = _; rw [gs_arr (κ := 1) z2, gs_elmi (κ := 1) z2 (by decide)]) rfl (nI_in hil (by omega)) hdg (fun H1 locs1 hP hD hS => ?_)
    have ec : gx_cel G ad (gx_wr M (gx_sa z i) v) z = .inl (gg_cT G 1, (z.2.2, .inl (upd (fun j => if j < z.2.2 then gx_N (gg_dk G) (gx_rd M (gx_sa z j)) else 0) (nI i).toNatClampNeg (vp_nar .char (gx_N (gg_dk G) v))))) := by
      rw [gs_arr (κ := 1) z2, gs_elmi (κ := 1) z2 (by decide)]
      refine congrArg (fun w => Sum.inl (gg_cT G 1, (z.2.2, Sum.inl w))) (funext fun b => ?_)
      rw [nI_clamp (by omega), gf_nar f2]
      show _ = if b = i then _ else _
      by_cases hb : b = i
      · subst hb
        rw [if_pos hil, if_pos rfl, gh_same f1]
      · rw [if_neg hb]
        show _ = if b < z.2.2 then gx_N (gg_dk G) (gx_rd M (gx_sa z b)) else 0
        by_cases hbl : b < z.2.2
        · rw [if_pos hbl, if_pos hbl, gh_ne f1 (by rw [gs_sa (κ := 1) z2, gs_sa (κ := 1) z2]; show z.1 + (i + 1) ≠ z.1 + (b + 1); omega)]
        · rw [if_neg hbl, if_neg hbl]
    rw [← ec] at hP
    have I1 := gs_put uI hq0 hil f1 (by unfold gx_ss; rw [if_neg (by omega), show z.2.1 - 64 = 1 by omega]; trivial) (gs_old X0 hS) hP
    rw [gs_sa (κ := 1) z2] at I1
    have w := kk cw ad H1 locs1 ls gx_sb_rf gx_agr_rf I1 hS uL (gv_oks_tl (gv_2 us)) ul
    rw [Nat.sub_self, Nat.sub_self, Nat.add_zero, Nat.add_zero] at w
    exact w
theorem gr_zast (hd : gx_D (gg_dk G)) (hdg : decode (gy_b Y) pc = .ok (.bastore, 1)) (hk : ∀ M1, gxJ G Y K (pc + 1) st L M1 n c (k M1)) : gxJ G Y K pc (gI v :: gI i :: gR 66 x :: st) L M n c (gx_ast x i v M gx_f2 k) := fun h => by
  obtain ⟨hx, h⟩ := gb_t h
  obtain ⟨hfv, h⟩ := gb_t h
  obtain ⟨hi, h⟩ := gb_t h
  have hx := gb_ble hx
  have hi : i + 1 ≤ gx_rd M x := gb_ble hi
  refine gj_go3 (hk (gx_wr M (Nat.add x (Nat.succ i)) v)) (Nat.le_refl _) (Nat.le_refl _) (fun p e R s m args below meth cd X cells slots cw ad H locs ls Q uI uS uL us ul hc9 hn9 kk => ?_) h rfl
  obtain ⟨z, hz, z1, z2⟩ := gs_find (gv_oks_hd (gv_2 us)) (by omega)
  subst z1
  rw [List.map_cons, List.map_cons, List.map_cons, gs_ref (by omega)]
  have X0 := X
  obtain ⟨x1, x2, x3, x4, x5, x6, x7, ⟨x8, x9, x10⟩, x11, x12⟩ := X
  rcases List.mem_append.mp hz with hz | hz
  · obtain ⟨r1, r2, r3, r4⟩ := x9 z hz
    rw [gs_exk (κ := 2) z2] at r2
    omega
  · obtain ⟨q0, hq0⟩ := List.getElem?_of_mem hz
    have hq := uI.2.2.2.2.1 z hz
    have hl := (hq.2.2.2 (by omega)).1
    have hn := uI.2.2.2.2.2.2.2.2.1
    rw [gs_exk (κ := 2) z2] at hq
    have hil : i < z.2.2 := by omega
    obtain ⟨f1, f2, f3⟩ := gv_2f (G := G) ad v hfv
    rw [show gx_den (gg_dk G) ad (gI i) = .int (nI i) from congrArg Value.int (gn_c (by omega))]
    refine va_zast (D := gg_D G) (cl := gx_cl) (tys := gx_tys (gg_cT G)) x1 x2 x11 uI.2.1 uI.2.2.1 uS q0 2 (a := ad z.1) (cA := gg_cT G 2) (n := z.2.2) (f := fun j => if j < z.2.2 then gx_N (gg_dk G) (gx_rd M (gx_sa z j)) else 0) (by rw [List.getElem?_map, hq0]; show some (_, gx_cel G ad M z) = _; rw [gs_arr (κ := 2) z2, gs_elmi (κ := 2) z2 (by decide)]) rfl (nI_in hil (by omega)) hdg (fun H1 locs1 hP hD hS => ?_)
    have ec : gx_cel G ad (gx_wr M (gx_sa z i) v) z = .inl (gg_cT G 2, (z.2.2, .inl (upd (fun j => if j < z.2.2 then gx_N (gg_dk G) (gx_rd M (gx_sa z j)) else 0) (nI i).toNatClampNeg (vp_nar .boolean (gx_N (gg_dk G) v))))) := by
      rw [gs_arr (κ := 2) z2, gs_elmi (κ := 2) z2 (by decide)]
      refine congrArg (fun w => Sum.inl (gg_cT G 2, (z.2.2, Sum.inl w))) (funext fun b => ?_)
      rw [nI_clamp (by omega), gf_nar f2]
      show _ = if b = i then _ else _
      by_cases hb : b = i
      · subst hb
        rw [if_pos hil, if_pos rfl, gh_same f1]
      · rw [if_neg hb]
        show _ = if b < z.2.2 then gx_N (gg_dk G) (gx_rd M (gx_sa z b)) else 0
        by_cases hbl : b < z.2.2
        · rw [if_pos hbl, if_pos hbl, gh_ne f1 (by rw [gs_sa (κ := 2) z2, gs_sa (κ := 2) z2]; show z.1 + (i + 1) ≠ z.1 + (b + 1); omega)]
        · rw [if_neg hbl, if_neg hbl]
    rw [← ec] at hP
    have I1 := gs_put uI hq0 hil f1 (by unfold gx_ss; rw [if_neg (by omega), show z.2.1 - 64 = 2 by omega]; trivial) (gs_old X0 hS) hP
    rw [gs_sa (κ := 2) z2] at I1
    have w := kk cw ad H1 locs1 ls gx_sb_rf gx_agr_rf I1 hS uL (gv_oks_tl (gv_2 us)) ul
    rw [Nat.sub_self, Nat.sub_self, Nat.add_zero, Nat.add_zero] at w
    exact w
theorem gr_bast (hd : gx_D (gg_dk G)) (hdg : decode (gy_b Y) pc = .ok (.bastore, 1)) (hk : ∀ M1, gxJ G Y K (pc + 1) st L M1 n c (k M1)) : gxJ G Y K pc (gI v :: gI i :: gR 67 x :: st) L M n c (gx_ast x i v M gx_f3 k) := fun h => by
  obtain ⟨hx, h⟩ := gb_t h
  obtain ⟨hfv, h⟩ := gb_t h
  obtain ⟨hi, h⟩ := gb_t h
  have hx := gb_ble hx
  have hi : i + 1 ≤ gx_rd M x := gb_ble hi
  refine gj_go3 (hk (gx_wr M (Nat.add x (Nat.succ i)) v)) (Nat.le_refl _) (Nat.le_refl _) (fun p e R s m args below meth cd X cells slots cw ad H locs ls Q uI uS uL us ul hc9 hn9 kk => ?_) h rfl
  obtain ⟨z, hz, z1, z2⟩ := gs_find (gv_oks_hd (gv_2 us)) (by omega)
  subst z1
  rw [List.map_cons, List.map_cons, List.map_cons, gs_ref (by omega)]
  have X0 := X
  obtain ⟨x1, x2, x3, x4, x5, x6, x7, ⟨x8, x9, x10⟩, x11, x12⟩ := X
  rcases List.mem_append.mp hz with hz | hz
  · obtain ⟨r1, r2, r3, r4⟩ := x9 z hz
    rw [gs_exk (κ := 3) z2] at r2
    omega
  · obtain ⟨q0, hq0⟩ := List.getElem?_of_mem hz
    have hq := uI.2.2.2.2.1 z hz
    have hl := (hq.2.2.2 (by omega)).1
    have hn := uI.2.2.2.2.2.2.2.2.1
    rw [gs_exk (κ := 3) z2] at hq
    have hil : i < z.2.2 := by omega
    obtain ⟨f1, f2, f3⟩ := gv_3 (G := G) hd ad v hfv
    rw [show gx_den (gg_dk G) ad (gI i) = .int (nI i) from congrArg Value.int (gn_c (by omega))]
    refine va_bast (D := gg_D G) (cl := gx_cl) (tys := gx_tys (gg_cT G)) x1 x2 x11 uI.2.1 uI.2.2.1 uS q0 3 (a := ad z.1) (cA := gg_cT G 3) (n := z.2.2) (f := fun j => if j < z.2.2 then gx_N (gg_dk G) (gx_rd M (gx_sa z j)) else 0) (by rw [List.getElem?_map, hq0]; show some (_, gx_cel G ad M z) = _; rw [gs_arr (κ := 3) z2, gs_elmi (κ := 3) z2 (by decide)]) rfl (nI_in hil (by omega)) hdg (fun H1 locs1 hP hD hS => ?_)
    have ec : gx_cel G ad (gx_wr M (gx_sa z i) v) z = .inl (gg_cT G 3, (z.2.2, .inl (upd (fun j => if j < z.2.2 then gx_N (gg_dk G) (gx_rd M (gx_sa z j)) else 0) (nI i).toNatClampNeg (vp_nar .byte (gx_N (gg_dk G) v))))) := by
      rw [gs_arr (κ := 3) z2, gs_elmi (κ := 3) z2 (by decide)]
      refine congrArg (fun w => Sum.inl (gg_cT G 3, (z.2.2, Sum.inl w))) (funext fun b => ?_)
      rw [nI_clamp (by omega), gf_nar f2]
      show _ = if b = i then _ else _
      by_cases hb : b = i
      · subst hb
        rw [if_pos hil, if_pos rfl, gh_same f1]
      · rw [if_neg hb]
        show _ = if b < z.2.2 then gx_N (gg_dk G) (gx_rd M (gx_sa z b)) else 0
        by_cases hbl : b < z.2.2
        · rw [if_pos hbl, if_pos hbl, gh_ne f1 (by rw [gs_sa (κ := 3) z2, gs_sa (κ := 3) z2]; show z.1 + (i + 1) ≠ z.1 + (b + 1); omega)]
        · rw [if_neg hbl, if_neg hbl]
    rw [← ec] at hP
    have I1 := gs_put uI hq0 hil f1 (by unfold gx_ss; rw [if_neg (by omega), show z.2.1 - 64 = 3 by omega]; trivial) (gs_old X0 hS) hP
    rw [gs_sa (κ := 3) z2] at I1
    have w := kk cw ad H1 locs1 ls gx_sb_rf gx_agr_rf I1 hS uL (gv_oks_tl (gv_2 us)) ul
    rw [Nat.sub_self, Nat.sub_self, Nat.add_zero, Nat.add_zero] at w
    exact w
theorem gr_last (hd : gx_D (gg_dk G)) (hdg : decode (gy_b Y) pc = .ok (.lastore, 1)) (hk : ∀ M1, gxJ G Y K (pc + 1) st L M1 n c (k M1)) : gxJ G Y K pc (gL v :: gI i :: gR 68 x :: st) L M n c (gx_ast x i v M gx_f0 k) := fun h => by
  obtain ⟨hx, h⟩ := gb_t h
  obtain ⟨hfv, h⟩ := gb_t h
  obtain ⟨hi, h⟩ := gb_t h
  have hx := gb_ble hx
  have hi : i + 1 ≤ gx_rd M x := gb_ble hi
  refine gj_go3 (hk (gx_wr M (Nat.add x (Nat.succ i)) v)) (Nat.le_refl _) (Nat.le_refl _) (fun p e R s m args below meth cd X cells slots cw ad H locs ls Q uI uS uL us ul hc9 hn9 kk => ?_) h rfl
  obtain ⟨z, hz, z1, z2⟩ := gs_find (gv_oks_hd (gv_2 us)) (by omega)
  subst z1
  rw [List.map_cons, List.map_cons, List.map_cons, gs_ref (by omega)]
  have X0 := X
  obtain ⟨x1, x2, x3, x4, x5, x6, x7, ⟨x8, x9, x10⟩, x11, x12⟩ := X
  rcases List.mem_append.mp hz with hz | hz
  · obtain ⟨r1, r2, r3, r4⟩ := x9 z hz
    rw [gs_exk (κ := 4) z2] at r2
    omega
  · obtain ⟨q0, hq0⟩ := List.getElem?_of_mem hz
    have hq := uI.2.2.2.2.1 z hz
    have hl := (hq.2.2.2 (by omega)).1
    have hn := uI.2.2.2.2.2.2.2.2.1
    rw [gs_exk (κ := 4) z2] at hq
    have hil : i < z.2.2 := by omega
    obtain ⟨f1, f2, f3⟩ := gv_4 (G := G) ad v hfv
    rw [show gx_den (gg_dk G) ad (gI i) = .int (nI i) from congrArg Value.int (gn_c (by omega))]
    refine va_last (D := gg_D G) (cl := gx_cl) (tys := gx_tys (gg_cT G)) x1 x2 x11 uI.2.1 uI.2.2.1 uS q0 4 (a := ad z.1) (cA := gg_cT G 4) (n := z.2.2) (f := fun j => if j < z.2.2 then lN (gx_rd M (gx_sa z j)) else 0) (by rw [List.getElem?_map, hq0]; show some (_, gx_cel G ad M z) = _; rw [gs_arr (κ := 4) z2, gs_elml (κ := 4) z2 (by decide)]) rfl (nI_in hil (by omega)) hdg (fun H1 locs1 hP hD hS => ?_)
    have ec : gx_cel G ad (gx_wr M (gx_sa z i) v) z = .inl (gg_cT G 4, (z.2.2, .inr (.inl (vp_updL (fun j => if j < z.2.2 then lN (gx_rd M (gx_sa z j)) else 0) (nI i).toNatClampNeg (lN v))))) := by
      rw [gs_arr (κ := 4) z2, gs_elml (κ := 4) z2 (by decide)]
      refine congrArg (fun w => Sum.inl (gg_cT G 4, (z.2.2, Sum.inr (Sum.inl w)))) (funext fun b => ?_)
      rw [nI_clamp (by omega)]
      show _ = if b = i then _ else _
      by_cases hb : b = i
      · subst hb
        rw [if_pos hil, if_pos rfl, gh_same f1]
      · rw [if_neg hb]
        show _ = if b < z.2.2 then lN (gx_rd M (gx_sa z b)) else 0
        by_cases hbl : b < z.2.2
        · rw [if_pos hbl, if_pos hbl, gh_ne f1 (by rw [gs_sa (κ := 4) z2, gs_sa (κ := 4) z2]; show z.1 + (i + 1) ≠ z.1 + (b + 1); omega)]
        · rw [if_neg hbl, if_neg hbl]
    rw [← ec] at hP
    have I1 := gs_put uI hq0 hil f1 (by unfold gx_ss; rw [if_neg (by omega), show z.2.1 - 64 = 4 by omega]; trivial) (gs_old X0 hS) hP
    rw [gs_sa (κ := 4) z2] at I1
    have w := kk cw ad H1 locs1 ls gx_sb_rf gx_agr_rf I1 hS uL (gv_oks_tl (gv_2 us)) ul
    rw [Nat.sub_self, Nat.sub_self, Nat.add_zero, Nat.add_zero] at w
    exact w
theorem gr_aast {κ t : Nat} {r : vw_C} (hdg : decode (gy_b Y) pc = .ok (.aastore, 1)) (hκ : 4 < κ ∧ κ < 8 ∧ gx_ks κ = 8 + t) (hC : (gx_tys (gg_cT G))[κ]? = some (gg_cT G κ, .object r.1)) (hr : gx_cl[t]? = some r) (hk : ∀ M1, gxJ G Y K (pc + 1) st L M1 n c (k M1)) : gxJ G Y K pc (gR t v :: gI i :: gR (64 + κ) x :: st) L M n c (gx_ast x i v M gx_f0 k) := fun h => by
  obtain ⟨hx, h⟩ := gb_t h
  obtain ⟨hfv, h⟩ := gb_t h
  obtain ⟨hi, h⟩ := gb_t h
  have hx := gb_ble hx
  have hi : i + 1 ≤ gx_rd M x := gb_ble hi
  refine gj_go3 (hk (gx_wr M (Nat.add x (Nat.succ i)) v)) (Nat.le_refl _) (Nat.le_refl _) (fun p e R s m args below meth cd X cells slots cw ad H locs ls Q uI uS uL us ul hc9 hn9 kk => ?_) h rfl
  obtain ⟨z, hz, z1, z2⟩ := gs_find (gv_oks_hd (gv_2 us)) (by omega)
  subst z1
  have X0 := X
  obtain ⟨x1, x2, x3, x4, x5, x6, x7, ⟨x8, x9, x10⟩, x11, x12⟩ := X
  rcases List.mem_append.mp hz with hz | hz
  · obtain ⟨r1, r2, r3, r4⟩ := x9 z hz
    rw [gs_exk (κ := κ) z2] at r2
    omega
  · obtain ⟨q0, hq0⟩ := List.getElem?_of_mem hz
    have hq := uI.2.2.2.2.1 z hz
    have hl := (hq.2.2.2 (by omega)).1
    have hn := uI.2.2.2.2.2.2.2.2.1
    rw [gs_exk (κ := κ) z2] at hq
    have hil : i < z.2.2 := by omega
    have f1 : v < 281474976710656 := by have := gb_ble hfv; omega
    have hap : ∀ b, b ≠ i → gx_rd (gx_wr M (gx_sa z i) v) (gx_sa z b) = gx_rd M (gx_sa z b) := fun b hb => gh_ne f1 (by rw [gs_sa (κ := κ) z2, gs_sa (κ := κ) z2]; show z.1 + (i + 1) ≠ z.1 + (b + 1); omega)
    have hcel : (cw.map fun q => (ad q.1, gx_cel G ad M q))[q0]? = some (ad z.1, .inl (gg_cT G κ, z.2.2, .inr (.inr (.inr (.inr (fun j => if j < z.2.2 then (if gx_rd M (gx_sa z j) = 0 then none else some (ad (gx_rd M (gx_sa z j)))) else none)))))) := by
      rw [List.getElem?_map, hq0]
      show some (_, gx_cel G ad M z) = _
      rw [gs_arr (κ := κ) z2, gs_elmr (κ := κ) z2 (by omega)]
    have ec : ∀ w : Option Nat, w = (if v = 0 then none else some (ad v)) → gx_cel G ad (gx_wr M (gx_sa z i) v) z = .inl (gg_cT G κ, (z.2.2, .inr (.inr (.inr (.inr (va_up (fun j => if j < z.2.2 then (if gx_rd M (gx_sa z j) = 0 then none else some (ad (gx_rd M (gx_sa z j)))) else none) (nI i).toNatClampNeg w)))))) := by
      intro w hw
      rw [gs_arr (κ := κ) z2, gs_elmr (κ := κ) z2 (by omega)]
      refine congrArg (fun w => Sum.inl (gg_cT G κ, (z.2.2, Sum.inr (Sum.inr (Sum.inr (Sum.inr w)))))) (funext fun b => ?_)
      rw [nI_clamp (by omega)]
      show _ = if b = i then w else _
      by_cases hb : b = i
      · subst hb
        rw [if_pos hil, if_pos rfl, gh_same f1, hw]
      · rw [if_neg hb]
        show _ = if b < z.2.2 then (if gx_rd M (gx_sa z b) = 0 then none else some (ad (gx_rd M (gx_sa z b)))) else none
        by_cases hbl : b < z.2.2
        · rw [if_pos hbl, if_pos hbl, hap b hb]
        · rw [if_neg hbl, if_neg hbl]
    have hok : gv_ok (gg_cr G ++ cw) (gx_sl (gx_ss z i) v) := by
      unfold gx_ss
      rw [if_neg (by omega), show z.2.1 - 64 = κ by omega, hκ.2.2, gx_sl, if_neg (by omega), if_neg (by omega), show 8 + t - 8 = t by omega]
      exact gv_oks_hd us
    have fin : ∀ (H1 : Heap) (locs1 : List Loc), va_P (gg_D G) gx_cl ((cw.map fun q => (ad q.1, gx_cel G ad M q)).set q0 (ad z.1, gx_cel G ad (gx_wr M (gx_sa z i) v) z)) H1 → va_S (gxA G) s.heap H1 locs1 → W p (gg_l G) e R s m args below meth cd H1 locs1 cells slots Q (F0 m (pc + 1) ls (st.map (gx_den (gg_dk G) ad))) := by
      intro H1 locs1 hP hS
      have I1 := gs_put uI hq0 hil f1 hok (gs_old X0 hS) hP
      rw [gs_sa (κ := κ) z2] at I1
      have w := kk cw ad H1 locs1 ls gx_sb_rf gx_agr_rf I1 hS uL (gv_oks_tl (gv_2 us)) ul
      rw [Nat.sub_self, Nat.sub_self, Nat.add_zero, Nat.add_zero] at w
      exact w
    rw [List.map_cons, List.map_cons, List.map_cons, gs_ref (t := 64 + κ) (by omega), show gx_den (gg_dk G) ad (gI i) = .int (nI i) from congrArg Value.int (gn_c (by omega))]
    by_cases hv0 : v = 0
    · rw [show gx_den (gg_dk G) ad (gR t v) = .null from if_pos hv0]
      refine va_astqN (D := gg_D G) (cl := gx_cl) (tys := gx_tys (gg_cT G)) x1 x2 x11 uI.2.1 uI.2.2.1 uS q0 κ hcel hC (nI_in hil (by omega)) hdg (fun H1 locs1 hP hD hS => ?_)
      rw [← ec none (by rw [if_pos hv0])] at hP
      exact fin H1 locs1 hP hS
    · rw [show gx_den (gg_dk G) ad (gR t v) = .ref (ad v) from if_neg hv0]
      obtain ⟨y, hy, y1, y2⟩ := gs_find (gv_oks_hd us) hv0
      rcases List.mem_append.mp hy with hy | hy
      · obtain ⟨r1, r2, r3, r4⟩ := x9 y hy
        have h64 : y.2.1 < 64 := by
          obtain ⟨rC, rT, rN⟩ := r
          have := (gk hr).2.2
          omega
        obtain ⟨⟨r5, -⟩, -⟩ := r3 h64
        exfalso
        have : κ = 5 ∨ κ = 6 ∨ κ = 7 := by omega
        rcases this with e | e | e <;> (subst e; have := hκ.2.2; simp only [gx_ks] at this; omega)
      · obtain ⟨qk, hqk⟩ := List.getElem?_of_mem hy
        have h64 : y.2.1 < 64 := by
          obtain ⟨rC, rT, rN⟩ := r
          have := (gk hr).2.2
          omega
        refine va_astq (D := gg_D G) (cl := gx_cl) (tys := gx_tys (gg_cT G)) x1 x2 x11 uI.2.1 uI.2.2.1 uS q0 κ qk t (v := ad v) (vs := (List.range y.2.2).map (fun j => gx_den (gg_dk G) ad (gx_sv M y j))) hcel hC (by rw [List.getElem?_map, hqk]; show some (ad y.1, gx_cel G ad M y) = _; rw [gs_obj h64, y1, y2]) hr (nI_in hil (by omega)) hdg (fun H1 locs1 hP hD hS => ?_)
        rw [← ec (some (ad v)) (by rw [if_neg hv0])] at hP
        exact fin H1 locs1 hP hS
/-- a new cell at the memory's end -/
theorem gs_new {ad : Nat → Nat} {cw : List gxq} {H H1 : Heap} {z : gxq} {M1 a : Nat} (hI : gxI G ad cw M n H) (hz : z.1 = n) (hx : n + gx_ex z < 2000000) (ht : (z.2.1 < 64 → z.2.2 = (gx_F z.2.1).length) ∧ (64 ≤ z.2.1 → gx_rd M1 z.1 = z.2.2 ∧ z.2.1 < 72)) (h0 : ∀ j, j < z.2.2 → gx_rd M1 (gx_sa z j) = 0) (hM : ∀ b, b ≠ n → gx_rd M1 b = gx_rd M b) (h3 : 0 < gx_ex z)
    (h1 : gg_lo G ≤ H1.size ∧ ∀ q : Nat, q < gg_lo G → H1[q]? = (gg_s G).heap[q]?)
    (hP : va_P (gg_D G) gx_cl ((cw.map fun q => (ad q.1, gx_cel G ad M q)) ++ [(a, gx_cel G (fun b => if b = n then a else ad b) M1 z)]) H1) (hD : va_D (fun q => gg_lo G ≤ q) ((cw.map fun q => (ad q.1, gx_cel G ad M q)) ++ [(a, gx_cel G (fun b => if b = n then a else ad b) M1 z)])) (hcr : ∀ q ∈ gg_cr G, q.1 < 128) :
    gxI G (fun b => if b = n then a else ad b) (cw ++ [z]) M1 (n + gx_ex z) H1 ∧ gx_agr (gg_cr G ++ cw) ad (fun b => if b = n then a else ad b) := by
  obtain ⟨i1, i2, i3, i4, i5, i6, i7, i8, i9, i10⟩ := hI
  have hne : ∀ q ∈ cw, gx_ex q ≠ 0 → q.1 ≠ n := fun q hq he => by have := (i5 q hq).2.1; omega
  have hag : gx_agr (gg_cr G ++ cw) ad (fun b => if b = n then a else ad b) := by
    intro q hq
    show (if q.1 = n then a else ad q.1) = ad q.1
    rcases List.mem_append.mp hq with hq | hq
    · rw [if_neg (by have := hcr q hq; omega)]
    · have hex : gx_ex q ≠ 0 := by have := i9.2 q hq; omega
      rw [if_neg (hne q hq hex)]
  have hrd : ∀ q ∈ cw, ∀ j, j < q.2.2 → gx_rd M1 (gx_sa q j) = gx_rd M (gx_sa q j) := fun q hq j hj => by
    obtain ⟨b1, b2⟩ := gx_sa_in hj
    have := (i5 q hq).2.1
    exact hM _ (by omega)
  have hcel : ∀ q ∈ cw, (ad q.1, gx_cel G ad M q) = ((if q.1 = n then a else ad q.1), gx_cel G (fun b => if b = n then a else ad b) M1 q) := by
    intro q hq
    have e1 := hag q (List.mem_append_right _ hq)
    have e1 : (if q.1 = n then a else ad q.1) = ad q.1 := e1
    rw [e1, ← gx_cel_eq (hrd q hq)]
    rw [gx_cel_agr (cs := gg_cr G ++ cw) (fun j hj => by rw [gx_sv_eq (hrd q hq j hj)]; exact i6 q hq j hj) hag]
  have hmap : (cw.map fun q => (ad q.1, gx_cel G ad M q)) ++ [(a, gx_cel G (fun b => if b = n then a else ad b) M1 z)] = (cw ++ [z]).map fun q => ((if q.1 = n then a else ad q.1), gx_cel G (fun b => if b = n then a else ad b) M1 q) := by
    rw [List.map_append, List.map_congr_left hcel]
    show _ ++ [(a, gx_cel G (fun b => if b = n then a else ad b) M1 z)] = _ ++ [((if z.1 = n then a else ad z.1), gx_cel G (fun b => if b = n then a else ad b) M1 z)]
    rw [if_pos hz]
  rw [hmap] at hP hD
  refine ⟨⟨h1, hP, hD, ?_, ?_, ?_, ?_, ?_, ?_, ?_⟩, hag⟩
  · intro q hq y hy
    rcases List.mem_append.mp hq with hq | hq
    · rcases List.mem_append.mp hy with hy | hy
      · exact i4 q hq y hy
      · rw [List.mem_singleton.mp hy]
        have := (i5 q hq).2.1
        exact Or.inr (Or.inl (by omega))
    · rcases List.mem_append.mp hy with hy | hy
      · rw [List.mem_singleton.mp hq]
        have := (i5 y hy).2.1
        exact Or.inr (Or.inr (by omega))
      · rw [List.mem_singleton.mp hq, List.mem_singleton.mp hy]
        exact Or.inl rfl
  · intro q hq
    rcases List.mem_append.mp hq with hq | hq
    · obtain ⟨g1, g2, g3, g4⟩ := i5 q hq
      refine ⟨g1, by omega, g3, fun h => ?_⟩
      obtain ⟨g5, g6⟩ := g4 h
      have hex : gx_ex q = q.2.2 + 1 := if_neg (by omega)
      exact ⟨by rw [hM _ (by omega), g5], g6⟩
    · rw [List.mem_singleton.mp hq]
      exact ⟨by omega, by omega, ht.1, ht.2⟩
  · intro q hq j hj
    rcases List.mem_append.mp hq with hq | hq
    · rw [gx_sv_eq (hrd q hq j hj)]
      exact gv_ok_sub (i6 q hq j hj) (gx_sb_app (fun q hq => List.mem_append_left _ hq))
    · rw [List.mem_singleton.mp hq] at hj ⊢
      rw [gx_sv_at, h0 j hj, gx_sl]
      split
      · trivial
      · split
        · trivial
        · exact Or.inl rfl
  · intro b hb
    by_cases hbn : b = n
    · omega
    · rw [hM b hbn]; exact i7 b (by omega)
  · intro b hb
    rw [hM b (by omega)]
    exact i8 b hb
  · refine ⟨by omega, fun q hq => ?_⟩
    rcases List.mem_append.mp hq with hq | hq
    · exact i9.2 q hq
    · rw [List.mem_singleton.mp hq]; exact h3
  · intro q hq
    have := hag q (List.mem_append_left _ hq)
    exact this.trans (i10 q hq)
theorem gk_pos (t : Nat) (h : t < 11) : 0 < (gx_F t).length := by
  have : t = 0 ∨ t = 1 ∨ t = 2 ∨ t = 3 ∨ t = 4 ∨ t = 5 ∨ t = 6 ∨ t = 7 ∨ t = 8 ∨ t = 9 ∨ t = 10 := by omega
  rcases this with rfl | rfl | rfl | rfl | rfl | rfl | rfl | rfl | rfl | rfl | rfl <;> decide
end WRS
end
section
/-! RULES: what is made in the heap (printed by wip/p47/gen_makes.py). -/
def gx_d0 (σ : Nat) : Value := if σ < 4 then .int 0 else if σ = 4 then .long 0 else .null
theorem gk_def {t : Nat} {C : String} {T : u_T} {N : Nat} (h : gx_cl[t]? = some (C, T, N)) : ∃ ty0 : Nat → FieldType, (∀ k, k < N → parseFieldDescriptor (T k).2.2.1 = some (ty0 k)) ∧ ∀ j, j < N → defaultValue (ty0 j) = gx_d0 ((gx_F t).getD j 0) := by
  match t, h with
  | 0, h => cases h; exact ⟨_, tyX0_ok, fun j hj => by
      rcases (show j = 0 ∨ j = 1 ∨ j = 2 ∨ j = 3 ∨ j = 4 ∨ j = 5 ∨ j = 6 ∨ j = 7 by omega) with rfl | rfl | rfl | rfl | rfl | rfl | rfl | rfl <;> rfl⟩
  | 1, h => cases h; exact ⟨_, tyX1_ok, fun j hj => by
      rcases (show j = 0 by omega) with rfl <;> rfl⟩
  | 2, h => cases h; exact ⟨_, tyX2_ok, fun j hj => by
      rcases (show j = 0 ∨ j = 1 ∨ j = 2 ∨ j = 3 by omega) with rfl | rfl | rfl | rfl <;> rfl⟩
  | 3, h => cases h; exact ⟨_, tyX3_ok, fun j hj => by
      rcases (show j = 0 ∨ j = 1 ∨ j = 2 ∨ j = 3 ∨ j = 4 ∨ j = 5 ∨ j = 6 ∨ j = 7 ∨ j = 8 ∨ j = 9 ∨ j = 10 ∨ j = 11 by omega) with rfl | rfl | rfl | rfl | rfl | rfl | rfl | rfl | rfl | rfl | rfl | rfl <;> rfl⟩
  | 4, h => cases h; exact ⟨_, tyX4_ok, fun j hj => by
      rcases (show j = 0 ∨ j = 1 by omega) with rfl | rfl <;> rfl⟩
  | 5, h => cases h; exact ⟨_, tyX5_ok, fun j hj => by
      rcases (show j = 0 ∨ j = 1 ∨ j = 2 ∨ j = 3 ∨ j = 4 by omega) with rfl | rfl | rfl | rfl | rfl <;> rfl⟩
  | 6, h => cases h; exact ⟨_, tyX6_ok, fun j hj => by
      rcases (show j = 0 ∨ j = 1 ∨ j = 2 ∨ j = 3 ∨ j = 4 by omega) with rfl | rfl | rfl | rfl | rfl <;> rfl⟩
  | 7, h => cases h; exact ⟨_, tyX7_ok, fun j hj => by
      rcases (show j = 0 ∨ j = 1 ∨ j = 2 ∨ j = 3 ∨ j = 4 ∨ j = 5 ∨ j = 6 ∨ j = 7 ∨ j = 8 ∨ j = 9 ∨ j = 10 ∨ j = 11 ∨ j = 12 ∨ j = 13 ∨ j = 14 ∨ j = 15 by omega) with rfl | rfl | rfl | rfl | rfl | rfl | rfl | rfl | rfl | rfl | rfl | rfl | rfl | rfl | rfl | rfl <;> rfl⟩
  | 8, h => cases h; exact ⟨_, tyJ0_ok, fun j hj => by
      rcases (show j = 0 ∨ j = 1 ∨ j = 2 ∨ j = 3 by omega) with rfl | rfl | rfl | rfl <;> rfl⟩
  | 9, h => cases h; exact ⟨_, tyJ4_ok, fun j hj => by
      rcases (show j = 0 ∨ j = 1 ∨ j = 2 ∨ j = 3 by omega) with rfl | rfl | rfl | rfl <;> rfl⟩
  | 10, h => cases h; exact ⟨_, tyL_ok, fun j hj => by
      rcases (show j = 0 ∨ j = 1 ∨ j = 2 ∨ j = 3 ∨ j = 4 by omega) with rfl | rfl | rfl | rfl | rfl <;> rfl⟩
  | t + 11, h => simp [gx_cl] at h
section MKS
variable {G : gxG} {Y : gxY} {K : Nat → Nat → Nat → Nat → Bool} {pc : Nat} {st L : List gxV} {M n c x i v : Nat} {e : Bool}
theorem gs_map {dk : Nat → Nat} {cs : List gxq} {ad ad' : Nat → Nat} {L : List gxV} (h : gv_oks cs L) (ha : gx_agr cs ad ad') : L.map (gx_den dk ad') = L.map (gx_den dk ad) := List.map_congr_left fun v hv => gx_den_agr (h v hv) ha
theorem gs_nq {dk ad : Nat → Nat} {n q t : Nat} (h : n ≠ 0) : gx_den dk (fun b => if b = n then q else ad b) (gR t n) = .ref q := by
  show gx_rf (fun b => if b = n then q else ad b) n = .ref q
  unfold gx_rf
  rw [if_neg h]
  exact congrArg Value.ref (if_pos rfl)
theorem gs_crlt {s : State} (h : gxR G s) (hx : ∀ q ∈ gg_cr G, 0 < gx_ex q ∨ True) : ∀ q ∈ gg_cr G, q.1 < 128 ∨ gx_ex q = 0 := fun q hq => by
  have := (h q hq).2.1
  omega
theorem gs_cr {s : State} (h : gxR G s) : ∀ q ∈ gg_cr G, q.1 < 128 := fun q hq => by
  obtain ⟨r1, r2, r3, r4⟩ := h q hq
  by_cases h64 : q.2.1 < 64
  · obtain ⟨⟨r5, r6⟩, -⟩ := r3 h64
    have : gx_ex q = q.2.2 := if_pos h64
    omega
  · have : gx_ex q = q.2.2 + 1 := if_neg h64
    omega
theorem gs_new0 {t : Nat} (ad : Nat → Nat) {M n N : Nat} (h64 : t < 64) (h0 : ∀ a, n ≤ a → gx_rd M a = 0) (hN : N = (gx_F t).length) : gx_cel G ad M (n, (t, N)) = .inr (t, (List.range N).map (fun j => gx_d0 ((gx_F t).getD j 0))) := by
  rw [gs_obj h64]
  refine congrArg (fun w => Sum.inr (t, w)) (List.map_congr_left fun j hj => ?_)
  rw [gx_sv_at, gx_ss, gx_sa, if_pos h64, if_pos h64]
  show gx_den _ _ (gx_sl _ (gx_rd M (n + j))) = _
  rw [h0 _ (by omega)]
  unfold gx_sl gx_d0
  split
  · exact congrArg Value.int ((gn_c (by decide)).trans nI_0)
  · split
    · rfl
    · exact (show gx_rf ad 0 = Value.null from if_pos rfl)
theorem gr_newo {index t : Nat} {k : Nat → Nat → Nat → Bool} {C : String} {T : u_T} {N : Nat} (hdg : decode (gy_b Y) pc = .ok (.new index, 3)) (ht : gx_cl[t]? = some (C, T, N)) (hcl : Cond.classLink (gy_o Y) index C ∈ gx_ws) (hinst : Cond.instantiable C N ∈ gx_ws) (hini : Cond.initialized C ∈ gx_ws)
    (hk : ∀ v n1 c1, gxJ G Y K (pc + 3) (gR t v :: st) L M n1 c1 (k v n1 c1)) : gxJ G Y K pc st L M n c (gx_new N n c k) := fun h => by
  obtain ⟨hn, h⟩ := gb_t h
  have hn := gb_ble hn
  obtain ⟨g1, g2, g3⟩ := gk ht
  obtain ⟨ty0, g4, g5⟩ := gk_def ht
  have hN16 : N ≤ 16 ∧ 0 < N := by
    have ht11 : t < 11 := by
      rcases Nat.lt_or_ge t 11 with q | q
      · exact q
      · rw [List.getElem?_eq_none (by simpa [gx_cl] using q)] at ht; cases ht
    have h1 := gk_pos t ht11
    refine ⟨?_, by omega⟩
    rw [g2]
    rcases (show t = 0 ∨ t = 1 ∨ t = 2 ∨ t = 3 ∨ t = 4 ∨ t = 5 ∨ t = 6 ∨ t = 7 ∨ t = 8 ∨ t = 9 ∨ t = 10 by omega) with rfl | rfl | rfl | rfl | rfl | rfl | rfl | rfl | rfl | rfl | rfl <;> decide
  have hex : gx_ex (n, (t, N)) = N := if_pos g3
  refine gj_go3 (hk n (n + N) (c + 1)) (Nat.le_add_right _ _) (Nat.le_add_right _ _) (fun p e R s m args below meth cd X cells slots cw ad H locs ls Q uI uS uL us ul hc9 hn9 kk => ?_) h rfl
  have X0 := X
  obtain ⟨x1, x2, x3, x4, x5, x6, x7, ⟨x8, x9, x10⟩, x11, ⟨x12, x13⟩, x14⟩ := X
  have h128 := uI.2.2.2.2.2.2.2.2.1.1
  rw [show c + 1 - c = 1 by omega] at hc9 kk
  rw [show n + N - n = N by omega] at hn9 kk
  refine va_new (D := gg_D G) (cl := gx_cl) (tys := gx_tys (gg_cT G)) x1 x2 x6 g1 ty0 g4 x5 (x6 _ hcl) (x6 _ hinst) (x6 _ hini) x11 uI.2.1 uI.2.2.1 uS (fun q hq => by show gg_lo G ≤ q; omega) ht (fs := (List.range N).map (fun j => gx_d0 ((gx_F t).getD j 0))) (fun j hj => ?_) hc9 hn9 hdg (fun q H1 hP hD hS => ?_)
  · have e1 : ((List.range N).map (fun j => gx_d0 ((gx_F t).getD j 0)))[j]? = some (gx_d0 ((gx_F t).getD j 0)) := by
      rw [List.getElem?_map, List.getElem?_range hj]; rfl
    have e2 : ∀ (l : List Value) (w : Value), l[j]? = some w → l.getD j .null = w := fun l w h => by rw [List.getD_eq_getElem?_getD, h]; rfl
    exact (g5 j hj).trans (e2 _ _ e1).symm
  · rw [← gs_new0 (G := G) (fun b => if b = n then q else ad b) g3 uI.2.2.2.2.2.2.1 g2] at hP hD
    obtain ⟨I1, hag⟩ := gs_new (z := (n, (t, N))) uI rfl (by rw [hex]; omega) ⟨fun _ => g2, fun h64 => absurd g3 (by show ¬ t < 64; exact Nat.not_lt.mpr h64)⟩ (fun j hj => uI.2.2.2.2.2.2.1 _ (by rw [gx_sa, if_pos g3]; exact Nat.le_add_right _ _)) (fun b hb => rfl) (by rw [hex]; omega) (gs_old X0 hS) hP hD (gs_cr x9)
    rw [hex] at I1
    have hsb : gx_sb cw (cw ++ [(n, (t, N))]) := fun q hq => List.mem_append_left _ hq
    have w := kk (cw ++ [(n, (t, N))]) (fun b => if b = n then q else ad b) H1 locs ls hsb (fun z hz => hag z (List.mem_append_right _ hz)) I1 hS (gx_lc_agr uL ul hag)
      (gv_oks_cons (Or.inr ⟨(n, (t, N)), List.mem_append_right _ (List.mem_append_right _ (List.mem_singleton.mpr rfl)), rfl, rfl⟩) (gv_oks_sub us (gx_sb_app hsb))) (gv_oks_sub ul (gx_sb_app hsb))
    rw [List.map_cons, gs_map us hag, show gx_den (gg_dk G) (fun b => if b = n then q else ad b) (gR t n) = .ref q from gs_nq (by omega)] at w
    exact w
theorem gs_newa {ad : Nat → Nat} {cw : List gxq} {H : Heap} {κ ln : Nat} (hI : gxI G ad cw M n H) (hl : ln ≤ 4096) : (∀ j, j < ln → gx_rd (gx_wr M n ln) (gx_sa (n, (64 + κ, ln)) j) = 0) ∧ gx_rd (gx_wr M n ln) n = ln ∧ ∀ b, b ≠ n → gx_rd (gx_wr M n ln) b = gx_rd M b := by
  refine ⟨fun j hj => ?_, gh_same (by omega), fun b hb => gh_ne (by omega) (Ne.symm hb)⟩
  rw [gs_sa (κ := κ) rfl, gh_ne (by omega) (by show n ≠ n + (j + 1); omega)]
  exact hI.2.2.2.2.2.2.1 _ (by show n ≤ n + (j + 1); omega)
theorem gs_cls {tys : List (ClassId × FieldType)} {s : State} {cA cB : ClassId} {ty : FieldType} {κ : Nat} (h1 : va_K (gg_D G) gx_cl tys s) (h2 : va_K (gg_D G) gx_cl (tys ++ [(cB, ty)]) s) (hκ : tys[κ]? = some (cA, ty)) : cB = cA := by
  have q1 := (h1.2 κ _ hκ).2
  have q2 := (h2.2 tys.length (cB, ty) (by rw [List.getElem?_append_right (Nat.le_refl _)]; simp)).2
  cases ty with
  | object C =>
    obtain ⟨_, _, _, _, _, a⟩ := q1
    obtain ⟨_, _, _, _, _, b⟩ := q2
    exact Option.some.inj (b.symm.trans a)
  | _ => exact Option.some.inj (Eq.trans (Eq.symm q2) q1)
theorem gr_newI {k : Nat → Nat → Nat → Nat → Bool} (hdg : decode (gy_b Y) pc = .ok (.newarray .int, 2)) (harr : Cond.arrayClass .int ∈ gx_ws)
    (hk : ∀ v M1 n1 c1, gxJ G Y K (pc + 2) (gR 64 v :: st) L M1 n1 c1 (k v M1 n1 c1)) : gxJ G Y K pc (gI x :: st) L M n c (gx_nea x M n c k) := fun h => by
  obtain ⟨hn, h⟩ := gb_t h
  obtain ⟨hx, hn⟩ := go_and hn
  have hn := gb_ble hn
  have hx := gb_ble hx
  have hex : gx_ex (n, (64, x)) = x + 1 := gs_exk (κ := 0) rfl
  refine gj_go3 (hk n (gx_wr M n x) (n + (x + 1)) (c + 1)) (Nat.le_add_right _ _) (Nat.le_add_right _ _) (fun p e R s m args below meth cd X cells slots cw ad H locs ls Q uI uS uL us ul hc9 hn9 kk => ?_) h rfl
  have X0 := X
  obtain ⟨x1, x2, x3, x4, x5, x6, x7, ⟨x8, x9, x10⟩, x11, ⟨x12, x13⟩, x14⟩ := X
  have h128 := uI.2.2.2.2.2.2.2.2.1.1
  obtain ⟨a1, a2, a3⟩ := gs_newa (κ := 0) uI hx
  rw [show c + 1 - c = 1 by omega] at hc9 kk
  rw [show n + (x + 1) - n = x + 1 by omega] at hn9 kk
  have hcel : ∀ ad' : Nat → Nat, gx_cel G ad' (gx_wr M n x) (n, (64, x)) = .inl (gg_cT G 0, (x, Sum.inl (fun _ => 0))) := fun ad' => by
    rw [gs_arr (κ := 0) rfl, gs_elmi (κ := 0) rfl (by decide)]
    refine congrArg (fun w => Sum.inl (gg_cT G 0, (x, Sum.inl w))) (funext fun j => ?_)
    by_cases hj : j < x
    · rw [if_pos hj, a1 j hj]
      exact (gn_c (by decide)).trans nI_0
    · rw [if_neg hj]
  rw [List.map_cons, show gx_den (gg_dk G) ad (gI x) = .int (nI x) from congrArg Value.int (gn_c (by omega))]
  refine va_newa (D := gg_D G) (cl := gx_cl) (tys := gx_tys (gg_cT G)) (atype := .int) x1 x2 (x6 _ harr) (ty := .int) rfl x11 uI.2.1 uI.2.2.1 uS (fun q hq => by show gg_lo G ≤ q; omega) (a0 := (x, Sum.inl (fun _ => 0))) (fun cA => rfl) (nI_pos (by omega)) (nI_clamp (by omega)) (Nat.le_trans (Nat.mul_le_mul_left x (show componentBytes .int ≤ 8 by decide)) (by omega)) hc9 (by omega) hdg (fun q cA H1 hK hP hD hS => ?_)
  have hcA := gs_cls x11 hK (κ := 0) rfl
  subst hcA
  rw [← hcel (fun b => if b = n then q else ad b)] at hP hD
  obtain ⟨I1, hag⟩ := gs_new (z := (n, (64, x))) uI rfl (by rw [hex]; omega) ⟨fun h64 => absurd h64 (show ¬ 64 < 64 by decide), fun _ => ⟨a2, show 64 < 72 by decide⟩⟩ a1 a3 (by rw [hex]; omega) (gs_old X0 hS) hP hD (gs_cr x9)
  rw [hex] at I1
  have hsb : gx_sb cw (cw ++ [(n, (64, x))]) := fun q hq => List.mem_append_left _ hq
  have w := kk (cw ++ [(n, (64, x))]) (fun b => if b = n then q else ad b) H1 locs ls hsb (fun z hz => hag z (List.mem_append_right _ hz)) I1 hS (gx_lc_agr uL ul hag)
    (gv_oks_cons (Or.inr ⟨(n, (64, x)), List.mem_append_right _ (List.mem_append_right _ (List.mem_singleton.mpr rfl)), rfl, rfl⟩) (gv_oks_sub (gv_oks_tl us) (gx_sb_app hsb))) (gv_oks_sub ul (gx_sb_app hsb))
  rw [List.map_cons, gs_map (gv_oks_tl us) hag, show gx_den (gg_dk G) (fun b => if b = n then q else ad b) (gR 64 n) = .ref q from gs_nq (by omega)] at w
  exact W.widen (Nat.le_refl _) (Nat.le_succ _) w
theorem gr_newC {k : Nat → Nat → Nat → Nat → Bool} (hdg : decode (gy_b Y) pc = .ok (.newarray .char, 2)) (harr : Cond.arrayClass .char ∈ gx_ws)
    (hk : ∀ v M1 n1 c1, gxJ G Y K (pc + 2) (gR 65 v :: st) L M1 n1 c1 (k v M1 n1 c1)) : gxJ G Y K pc (gI x :: st) L M n c (gx_nea x M n c k) := fun h => by
  obtain ⟨hn, h⟩ := gb_t h
  obtain ⟨hx, hn⟩ := go_and hn
  have hn := gb_ble hn
  have hx := gb_ble hx
  have hex : gx_ex (n, (65, x)) = x + 1 := gs_exk (κ := 1) rfl
  refine gj_go3 (hk n (gx_wr M n x) (n + (x + 1)) (c + 1)) (Nat.le_add_right _ _) (Nat.le_add_right _ _) (fun p e R s m args below meth cd X cells slots cw ad H locs ls Q uI uS uL us ul hc9 hn9 kk => ?_) h rfl
  have X0 := X
  obtain ⟨x1, x2, x3, x4, x5, x6, x7, ⟨x8, x9, x10⟩, x11, ⟨x12, x13⟩, x14⟩ := X
  have h128 := uI.2.2.2.2.2.2.2.2.1.1
  obtain ⟨a1, a2, a3⟩ := gs_newa (κ := 1) uI hx
  rw [show c + 1 - c = 1 by omega] at hc9 kk
  rw [show n + (x + 1) - n = x + 1 by omega] at hn9 kk
  have hcel : ∀ ad' : Nat → Nat, gx_cel G ad' (gx_wr M n x) (n, (65, x)) = .inl (gg_cT G 1, (x, Sum.inl (fun _ => 0))) := fun ad' => by
    rw [gs_arr (κ := 1) rfl, gs_elmi (κ := 1) rfl (by decide)]
    refine congrArg (fun w => Sum.inl (gg_cT G 1, (x, Sum.inl w))) (funext fun j => ?_)
    by_cases hj : j < x
    · rw [if_pos hj, a1 j hj]
      exact (gn_c (by decide)).trans nI_0
    · rw [if_neg hj]
  rw [List.map_cons, show gx_den (gg_dk G) ad (gI x) = .int (nI x) from congrArg Value.int (gn_c (by omega))]
  refine va_newa (D := gg_D G) (cl := gx_cl) (tys := gx_tys (gg_cT G)) (atype := .char) x1 x2 (x6 _ harr) (ty := .char) rfl x11 uI.2.1 uI.2.2.1 uS (fun q hq => by show gg_lo G ≤ q; omega) (a0 := (x, Sum.inl (fun _ => 0))) (fun cA => rfl) (nI_pos (by omega)) (nI_clamp (by omega)) (Nat.le_trans (Nat.mul_le_mul_left x (show componentBytes .char ≤ 8 by decide)) (by omega)) hc9 (by omega) hdg (fun q cA H1 hK hP hD hS => ?_)
  have hcA := gs_cls x11 hK (κ := 1) rfl
  subst hcA
  rw [← hcel (fun b => if b = n then q else ad b)] at hP hD
  obtain ⟨I1, hag⟩ := gs_new (z := (n, (65, x))) uI rfl (by rw [hex]; omega) ⟨fun h64 => absurd h64 (show ¬ 65 < 64 by decide), fun _ => ⟨a2, show 65 < 72 by decide⟩⟩ a1 a3 (by rw [hex]; omega) (gs_old X0 hS) hP hD (gs_cr x9)
  rw [hex] at I1
  have hsb : gx_sb cw (cw ++ [(n, (65, x))]) := fun q hq => List.mem_append_left _ hq
  have w := kk (cw ++ [(n, (65, x))]) (fun b => if b = n then q else ad b) H1 locs ls hsb (fun z hz => hag z (List.mem_append_right _ hz)) I1 hS (gx_lc_agr uL ul hag)
    (gv_oks_cons (Or.inr ⟨(n, (65, x)), List.mem_append_right _ (List.mem_append_right _ (List.mem_singleton.mpr rfl)), rfl, rfl⟩) (gv_oks_sub (gv_oks_tl us) (gx_sb_app hsb))) (gv_oks_sub ul (gx_sb_app hsb))
  rw [List.map_cons, gs_map (gv_oks_tl us) hag, show gx_den (gg_dk G) (fun b => if b = n then q else ad b) (gR 65 n) = .ref q from gs_nq (by omega)] at w
  exact W.widen (Nat.le_refl _) (Nat.le_succ _) w
theorem gr_newZ {k : Nat → Nat → Nat → Nat → Bool} (hdg : decode (gy_b Y) pc = .ok (.newarray .boolean, 2)) (harr : Cond.arrayClass .boolean ∈ gx_ws)
    (hk : ∀ v M1 n1 c1, gxJ G Y K (pc + 2) (gR 66 v :: st) L M1 n1 c1 (k v M1 n1 c1)) : gxJ G Y K pc (gI x :: st) L M n c (gx_nea x M n c k) := fun h => by
  obtain ⟨hn, h⟩ := gb_t h
  obtain ⟨hx, hn⟩ := go_and hn
  have hn := gb_ble hn
  have hx := gb_ble hx
  have hex : gx_ex (n, (66, x)) = x + 1 := gs_exk (κ := 2) rfl
  refine gj_go3 (hk n (gx_wr M n x) (n + (x + 1)) (c + 1)) (Nat.le_add_right _ _) (Nat.le_add_right _ _) (fun p e R s m args below meth cd X cells slots cw ad H locs ls Q uI uS uL us ul hc9 hn9 kk => ?_) h rfl
  have X0 := X
  obtain ⟨x1, x2, x3, x4, x5, x6, x7, ⟨x8, x9, x10⟩, x11, ⟨x12, x13⟩, x14⟩ := X
  have h128 := uI.2.2.2.2.2.2.2.2.1.1
  obtain ⟨a1, a2, a3⟩ := gs_newa (κ := 2) uI hx
  rw [show c + 1 - c = 1 by omega] at hc9 kk
  rw [show n + (x + 1) - n = x + 1 by omega] at hn9 kk
  have hcel : ∀ ad' : Nat → Nat, gx_cel G ad' (gx_wr M n x) (n, (66, x)) = .inl (gg_cT G 2, (x, Sum.inl (fun _ => 0))) := fun ad' => by
    rw [gs_arr (κ := 2) rfl, gs_elmi (κ := 2) rfl (by decide)]
    refine congrArg (fun w => Sum.inl (gg_cT G 2, (x, Sum.inl w))) (funext fun j => ?_)
    by_cases hj : j < x
    · rw [if_pos hj, a1 j hj]
      exact (gn_c (by decide)).trans nI_0
    · rw [if_neg hj]
  rw [List.map_cons, show gx_den (gg_dk G) ad (gI x) = .int (nI x) from congrArg Value.int (gn_c (by omega))]
  refine va_newa (D := gg_D G) (cl := gx_cl) (tys := gx_tys (gg_cT G)) (atype := .boolean) x1 x2 (x6 _ harr) (ty := .boolean) rfl x11 uI.2.1 uI.2.2.1 uS (fun q hq => by show gg_lo G ≤ q; omega) (a0 := (x, Sum.inl (fun _ => 0))) (fun cA => rfl) (nI_pos (by omega)) (nI_clamp (by omega)) (Nat.le_trans (Nat.mul_le_mul_left x (show componentBytes .boolean ≤ 8 by decide)) (by omega)) hc9 (by omega) hdg (fun q cA H1 hK hP hD hS => ?_)
  have hcA := gs_cls x11 hK (κ := 2) rfl
  subst hcA
  rw [← hcel (fun b => if b = n then q else ad b)] at hP hD
  obtain ⟨I1, hag⟩ := gs_new (z := (n, (66, x))) uI rfl (by rw [hex]; omega) ⟨fun h64 => absurd h64 (show ¬ 66 < 64 by decide), fun _ => ⟨a2, show 66 < 72 by decide⟩⟩ a1 a3 (by rw [hex]; omega) (gs_old X0 hS) hP hD (gs_cr x9)
  rw [hex] at I1
  have hsb : gx_sb cw (cw ++ [(n, (66, x))]) := fun q hq => List.mem_append_left _ hq
  have w := kk (cw ++ [(n, (66, x))]) (fun b => if b = n then q else ad b) H1 locs ls hsb (fun z hz => hag z (List.mem_append_right _ hz)) I1 hS (gx_lc_agr uL ul hag)
    (gv_oks_cons (Or.inr ⟨(n, (66, x)), List.mem_append_right _ (List.mem_append_right _ (List.mem_singleton.mpr rfl)), rfl, rfl⟩) (gv_oks_sub (gv_oks_tl us) (gx_sb_app hsb))) (gv_oks_sub ul (gx_sb_app hsb))
  rw [List.map_cons, gs_map (gv_oks_tl us) hag, show gx_den (gg_dk G) (fun b => if b = n then q else ad b) (gR 66 n) = .ref q from gs_nq (by omega)] at w
  exact W.widen (Nat.le_refl _) (Nat.le_succ _) w
theorem gr_newB {k : Nat → Nat → Nat → Nat → Bool} (hdg : decode (gy_b Y) pc = .ok (.newarray .byte, 2)) (harr : Cond.arrayClass .byte ∈ gx_ws)
    (hk : ∀ v M1 n1 c1, gxJ G Y K (pc + 2) (gR 67 v :: st) L M1 n1 c1 (k v M1 n1 c1)) : gxJ G Y K pc (gI x :: st) L M n c (gx_nea x M n c k) := fun h => by
  obtain ⟨hn, h⟩ := gb_t h
  obtain ⟨hx, hn⟩ := go_and hn
  have hn := gb_ble hn
  have hx := gb_ble hx
  have hex : gx_ex (n, (67, x)) = x + 1 := gs_exk (κ := 3) rfl
  refine gj_go3 (hk n (gx_wr M n x) (n + (x + 1)) (c + 1)) (Nat.le_add_right _ _) (Nat.le_add_right _ _) (fun p e R s m args below meth cd X cells slots cw ad H locs ls Q uI uS uL us ul hc9 hn9 kk => ?_) h rfl
  have X0 := X
  obtain ⟨x1, x2, x3, x4, x5, x6, x7, ⟨x8, x9, x10⟩, x11, ⟨x12, x13⟩, x14⟩ := X
  have h128 := uI.2.2.2.2.2.2.2.2.1.1
  obtain ⟨a1, a2, a3⟩ := gs_newa (κ := 3) uI hx
  rw [show c + 1 - c = 1 by omega] at hc9 kk
  rw [show n + (x + 1) - n = x + 1 by omega] at hn9 kk
  have hcel : ∀ ad' : Nat → Nat, gx_cel G ad' (gx_wr M n x) (n, (67, x)) = .inl (gg_cT G 3, (x, Sum.inl (fun _ => 0))) := fun ad' => by
    rw [gs_arr (κ := 3) rfl, gs_elmi (κ := 3) rfl (by decide)]
    refine congrArg (fun w => Sum.inl (gg_cT G 3, (x, Sum.inl w))) (funext fun j => ?_)
    by_cases hj : j < x
    · rw [if_pos hj, a1 j hj]
      exact (gn_c (by decide)).trans nI_0
    · rw [if_neg hj]
  rw [List.map_cons, show gx_den (gg_dk G) ad (gI x) = .int (nI x) from congrArg Value.int (gn_c (by omega))]
  refine va_newa (D := gg_D G) (cl := gx_cl) (tys := gx_tys (gg_cT G)) (atype := .byte) x1 x2 (x6 _ harr) (ty := .byte) rfl x11 uI.2.1 uI.2.2.1 uS (fun q hq => by show gg_lo G ≤ q; omega) (a0 := (x, Sum.inl (fun _ => 0))) (fun cA => rfl) (nI_pos (by omega)) (nI_clamp (by omega)) (Nat.le_trans (Nat.mul_le_mul_left x (show componentBytes .byte ≤ 8 by decide)) (by omega)) hc9 (by omega) hdg (fun q cA H1 hK hP hD hS => ?_)
  have hcA := gs_cls x11 hK (κ := 3) rfl
  subst hcA
  rw [← hcel (fun b => if b = n then q else ad b)] at hP hD
  obtain ⟨I1, hag⟩ := gs_new (z := (n, (67, x))) uI rfl (by rw [hex]; omega) ⟨fun h64 => absurd h64 (show ¬ 67 < 64 by decide), fun _ => ⟨a2, show 67 < 72 by decide⟩⟩ a1 a3 (by rw [hex]; omega) (gs_old X0 hS) hP hD (gs_cr x9)
  rw [hex] at I1
  have hsb : gx_sb cw (cw ++ [(n, (67, x))]) := fun q hq => List.mem_append_left _ hq
  have w := kk (cw ++ [(n, (67, x))]) (fun b => if b = n then q else ad b) H1 locs ls hsb (fun z hz => hag z (List.mem_append_right _ hz)) I1 hS (gx_lc_agr uL ul hag)
    (gv_oks_cons (Or.inr ⟨(n, (67, x)), List.mem_append_right _ (List.mem_append_right _ (List.mem_singleton.mpr rfl)), rfl, rfl⟩) (gv_oks_sub (gv_oks_tl us) (gx_sb_app hsb))) (gv_oks_sub ul (gx_sb_app hsb))
  rw [List.map_cons, gs_map (gv_oks_tl us) hag, show gx_den (gg_dk G) (fun b => if b = n then q else ad b) (gR 67 n) = .ref q from gs_nq (by omega)] at w
  exact W.widen (Nat.le_refl _) (Nat.le_succ _) w
theorem gr_newJ {k : Nat → Nat → Nat → Nat → Bool} (hdg : decode (gy_b Y) pc = .ok (.newarray .long, 2)) (harr : Cond.arrayClass .long ∈ gx_ws)
    (hk : ∀ v M1 n1 c1, gxJ G Y K (pc + 2) (gR 68 v :: st) L M1 n1 c1 (k v M1 n1 c1)) : gxJ G Y K pc (gI x :: st) L M n c (gx_nea x M n c k) := fun h => by
  obtain ⟨hn, h⟩ := gb_t h
  obtain ⟨hx, hn⟩ := go_and hn
  have hn := gb_ble hn
  have hx := gb_ble hx
  have hex : gx_ex (n, (68, x)) = x + 1 := gs_exk (κ := 4) rfl
  refine gj_go3 (hk n (gx_wr M n x) (n + (x + 1)) (c + 1)) (Nat.le_add_right _ _) (Nat.le_add_right _ _) (fun p e R s m args below meth cd X cells slots cw ad H locs ls Q uI uS uL us ul hc9 hn9 kk => ?_) h rfl
  have X0 := X
  obtain ⟨x1, x2, x3, x4, x5, x6, x7, ⟨x8, x9, x10⟩, x11, ⟨x12, x13⟩, x14⟩ := X
  have h128 := uI.2.2.2.2.2.2.2.2.1.1
  obtain ⟨a1, a2, a3⟩ := gs_newa (κ := 4) uI hx
  rw [show c + 1 - c = 1 by omega] at hc9 kk
  rw [show n + (x + 1) - n = x + 1 by omega] at hn9 kk
  have hcel : ∀ ad' : Nat → Nat, gx_cel G ad' (gx_wr M n x) (n, (68, x)) = .inl (gg_cT G 4, (x, Sum.inr (Sum.inl (fun _ => 0)))) := fun ad' => by
    rw [gs_arr (κ := 4) rfl, gs_elml (κ := 4) rfl (by decide)]
    refine congrArg (fun w => Sum.inl (gg_cT G 4, (x, Sum.inr (Sum.inl w)))) (funext fun j => ?_)
    by_cases hj : j < x
    · rw [if_pos hj, a1 j hj]
      rfl
    · rw [if_neg hj]
  rw [List.map_cons, show gx_den (gg_dk G) ad (gI x) = .int (nI x) from congrArg Value.int (gn_c (by omega))]
  refine va_newa (D := gg_D G) (cl := gx_cl) (tys := gx_tys (gg_cT G)) (atype := .long) x1 x2 (x6 _ harr) (ty := .long) rfl x11 uI.2.1 uI.2.2.1 uS (fun q hq => by show gg_lo G ≤ q; omega) (a0 := (x, Sum.inr (Sum.inl (fun _ => 0)))) (fun cA => rfl) (nI_pos (by omega)) (nI_clamp (by omega)) (Nat.le_trans (Nat.mul_le_mul_left x (show componentBytes .long ≤ 8 by decide)) (by omega)) hc9 (by omega) hdg (fun q cA H1 hK hP hD hS => ?_)
  have hcA := gs_cls x11 hK (κ := 4) rfl
  subst hcA
  rw [← hcel (fun b => if b = n then q else ad b)] at hP hD
  obtain ⟨I1, hag⟩ := gs_new (z := (n, (68, x))) uI rfl (by rw [hex]; omega) ⟨fun h64 => absurd h64 (show ¬ 68 < 64 by decide), fun _ => ⟨a2, show 68 < 72 by decide⟩⟩ a1 a3 (by rw [hex]; omega) (gs_old X0 hS) hP hD (gs_cr x9)
  rw [hex] at I1
  have hsb : gx_sb cw (cw ++ [(n, (68, x))]) := fun q hq => List.mem_append_left _ hq
  have w := kk (cw ++ [(n, (68, x))]) (fun b => if b = n then q else ad b) H1 locs ls hsb (fun z hz => hag z (List.mem_append_right _ hz)) I1 hS (gx_lc_agr uL ul hag)
    (gv_oks_cons (Or.inr ⟨(n, (68, x)), List.mem_append_right _ (List.mem_append_right _ (List.mem_singleton.mpr rfl)), rfl, rfl⟩) (gv_oks_sub (gv_oks_tl us) (gx_sb_app hsb))) (gv_oks_sub ul (gx_sb_app hsb))
  rw [List.map_cons, gs_map (gv_oks_tl us) hag, show gx_den (gg_dk G) (fun b => if b = n then q else ad b) (gR 68 n) = .ref q from gs_nq (by omega)] at w
  exact W.widen (Nat.le_refl _) (Nat.le_succ _) w
theorem gs_AO {C : String} {args : Array Value} {s : State} (h : (Cond.arrayOver (.object C)).before args s = true) : va_AO C s := va_AO.of h
theorem gr_newq {index κ : Nat} {C : String} {k : Nat → Nat → Nat → Nat → Bool} (hdg : decode (gy_b Y) pc = .ok (.anewarray index, 3)) (hclink : Cond.classLink (gy_o Y) index C ∈ gx_ws) (hover : Cond.arrayOver (.object C) ∈ gx_ws) (hκ : 4 < κ ∧ κ < 8) (hC : (gx_tys (gg_cT G))[κ]? = some (gg_cT G κ, .object C))
    (hk : ∀ v M1 n1 c1, gxJ G Y K (pc + 3) (gR (64 + κ) v :: st) L M1 n1 c1 (k v M1 n1 c1)) : gxJ G Y K pc (gI x :: st) L M n c (gx_nea x M n c k) := fun h => by
  obtain ⟨hn, h⟩ := gb_t h
  obtain ⟨hx, hn⟩ := go_and hn
  have hn := gb_ble hn
  have hx := gb_ble hx
  have hex : gx_ex (n, (64 + κ, x)) = x + 1 := gs_exk (κ := κ) rfl
  have hks : 4 < gx_ks κ := by
    rcases (show κ = 5 ∨ κ = 6 ∨ κ = 7 by omega) with rfl | rfl | rfl <;> decide
  refine gj_go3 (hk n (gx_wr M n x) (n + (x + 1)) (c + 1)) (Nat.le_add_right _ _) (Nat.le_add_right _ _) (fun p e R s m args below meth cd X cells slots cw ad H locs ls Q uI uS uL us ul hc9 hn9 kk => ?_) h rfl
  have X0 := X
  obtain ⟨x1, x2, x3, x4, x5, x6, x7, ⟨x8, x9, x10⟩, x11, ⟨x12, x13⟩, x14⟩ := X
  have h128 := uI.2.2.2.2.2.2.2.2.1.1
  obtain ⟨a1, a2, a3⟩ := gs_newa (κ := κ) uI hx
  rw [show c + 1 - c = 1 by omega] at hc9 kk
  rw [show n + (x + 1) - n = x + 1 by omega] at hn9 kk
  have hcel : ∀ ad' : Nat → Nat, gx_cel G ad' (gx_wr M n x) (n, (64 + κ, x)) = .inl (gg_cT G κ, (x, .inr (.inr (.inr (.inr (fun _ => none)))))) := fun ad' => by
    rw [gs_arr (κ := κ) rfl, gs_elmr (κ := κ) rfl hks]
    refine congrArg (fun w => Sum.inl (gg_cT G κ, (x, Sum.inr (Sum.inr (Sum.inr (Sum.inr w)))))) (funext fun j => ?_)
    by_cases hj : j < x
    · rw [if_pos hj, a1 j hj, if_pos rfl]
    · rw [if_neg hj]
  rw [List.map_cons, show gx_den (gg_dk G) ad (gI x) = .int (nI x) from congrArg Value.int (gn_c (by omega))]
  refine va_newq (D := gg_D G) (cl := gx_cl) (tys := gx_tys (gg_cT G)) x1 x2 x5 (x6 _ hclink) (gs_AO (x6 _ hover)) x11 uI.2.1 uI.2.2.1 uS (fun q hq => by show gg_lo G ≤ q; omega) (nI_pos (by omega)) (nI_clamp (by omega)) (by omega) hc9 (by omega) hdg (fun q cA H1 hK hP hD hS => ?_)
  have hcA := gs_cls x11 hK (κ := κ) hC
  subst hcA
  rw [← hcel (fun b => if b = n then q else ad b)] at hP hD
  obtain ⟨I1, hag⟩ := gs_new (z := (n, (64 + κ, x))) uI rfl (by rw [hex]; omega) ⟨fun h64 => absurd h64 (by show ¬ 64 + κ < 64; omega), fun _ => ⟨a2, by show 64 + κ < 72; omega⟩⟩ a1 a3 (by rw [hex]; omega) (gs_old X0 hS) hP hD (gs_cr x9)
  rw [hex] at I1
  have hsb : gx_sb cw (cw ++ [(n, (64 + κ, x))]) := fun q hq => List.mem_append_left _ hq
  have w := kk (cw ++ [(n, (64 + κ, x))]) (fun b => if b = n then q else ad b) H1 locs ls hsb (fun z hz => hag z (List.mem_append_right _ hz)) I1 hS (gx_lc_agr uL ul hag)
    (gv_oks_cons (Or.inr ⟨(n, (64 + κ, x)), List.mem_append_right _ (List.mem_append_right _ (List.mem_singleton.mpr rfl)), rfl, rfl⟩) (gv_oks_sub (gv_oks_tl us) (gx_sb_app hsb))) (gv_oks_sub ul (gx_sb_app hsb))
  rw [List.map_cons, gs_map (gv_oks_tl us) hag, show gx_den (gg_dk G) (fun b => if b = n then q else ad b) (gR (64 + κ) n) = .ref q from gs_nq (by omega)] at w
  exact W.widen (Nat.le_refl _) (Nat.le_succ _) w
end MKS
end
section
/-! RULES: calls. -/
noncomputable def gx_nn (x : Nat) (e : Bool) : Bool := Bool.rec (motive := fun _ => Bool) e false (Nat.beq x 0)
/-- a callee that may throw: then so does its caller -/
noncomputable def gx_thr (K : Nat → Nat → Nat → Nat → Bool) (v M n c : Nat) (e : Bool) : Bool := Bool.rec (motive := fun _ => Bool) e (K gx_T M n c) (Nat.beq v gx_T)
def gx_rs (σ v : Nat) (rest : List gxV) : List gxV := if σ = 5 then rest else gx_sl σ v :: rest
def gx_cats : List gxV → Nat
  | [] => 0
  | v :: t => (match gx_lg v with | true => 2 | false => 1) + gx_cats t
theorem gx_cats_sum {dk ad : Nat → Nat} : ∀ (L : List gxV), ((L.map (gx_den dk ad)).map fun v => v.category).sum ≤ gx_cats L := by
  intro L
  induction L with
  | nil => exact Nat.le_refl _
  | cons v t ih =>
    show (gx_den dk ad v).category + _ ≤ _ + gx_cats t
    cases h : gx_lg v with
    | false => rw [gx_cat h]; exact Nat.add_le_add_left ih 1
    | true =>
      rcases v with x | x | x | x
      · exact nomatch h
      · exact Nat.add_le_add_left ih 2
      · exact nomatch h
      · exact nomatch h
section CLS
variable {G : gxG} {Y Y' : gxY} {K : Nat → Nat → Nat → Nat → Bool} {pc : Nat} {st L rest vs : List gxV} {M n c x : Nat} {y : MethodName} {f : Nat → Nat → Nat → (Nat → Nat → Nat → Nat → Bool) → Bool} {k : Nat → Nat → Nat → Nat → Bool}
theorem gxPc_blind {G : gxG} {ad : Nat → Nat} {cw : List gxq} {vs : List gxV} {M n : Nat} : FrameBlind (gxPc G ad cw vs M n) := fun _ _ _ _ h => h
theorem gxPc_at {s : State} {cw : List gxq} {ad : Nat → Nat} {H : Heap} (hW : (gg_s G).WarmedH s.vm) (uI : gxI G ad cw M n H) (us : gv_oks (gg_cr G ++ cw) vs) : ∀ U : State, U.heap = H → s.WarmedH U.vm → gxPc G ad cw vs M n (vs.map (gx_den (gg_dk G) ad)).toArray U := fun U hU hW2 => ⟨rfl, State.WarmedH.trans hW hW2, by rw [hU]; exact uI, us⟩
/-- what a call's run owes -/
def gxRun (G : gxG) (Y' : gxY) (p : Program) (e : Env) (R : Room) (s : State) (m : MethodId) (args : Array Value) (below : List Frame) (meth : Method) (cd : Code) (H : Heap) (locs : List Loc) (cells slots mc ms : Nat) (g : JFrame) (rest : List Value) (ad : Nat → Nat) (cw : List gxq) (v M1 n1 : Nat) (a : Array Value) : Prop :=
  vx_Run p (gg_l G) e R s m args below meth cd H locs cells slots mc ms g rest (gxQc G (gy_s Y') ad cw v M1 n1 a) (gxXC G ad cw v M1 n1) (gxA G)
theorem va_to_vx {p : Program} {l : Launch} {e : Env} {R : Room} {s : State} {m : MethodId} {args : Array Value} {below : List Frame} {meth : Method} {c : Code} {H : Heap} {locs : List Loc} {cells slots mc ms : Nat} {g : JFrame} {rest : List Value} {Qa : State → Outcome → State → Prop} {XC : String → State → State → Prop} {free : Addr → Prop}
    (h : va_Run p l e R s m args below meth c H locs cells slots mc ms g rest Qa free) : vx_Run p l e R s m args below meth c H locs cells slots mc ms g rest Qa XC free := fun T hT X => Or.inl (h T hT X)
theorem gj_call (hM : gxM G Y' y vs f) (hf : f M n c k = true)
    (hrun : ∀ (p : Program) (e : Env) (R : Room) (s : State) (m : MethodId) (args : Array Value) (below : List Frame) (meth : Method) (cd : Code), gxX G Y p R s m args meth cd →
      ∀ (cells slots : Nat) (cw : List gxq) (ad : Nat → Nat) (H : Heap) (locs : List Loc) (ls : Array Slot), gxI G ad cw M n H → va_S (gxA G) s.heap H locs → gx_lc (gg_dk G) ad (gy_l Y) ls L → gv_oks (gg_cr G ++ cw) st → ∀ v M1 n1 c1 : Nat, gxC G Y' y vs cw ad M n c v M1 n1 c1 → cells + (c1 - c) ≤ R.cells → slots + (n1 - n) ≤ R.slots →
        gxRun G Y' p e R s m args below meth cd H locs cells slots (c1 - c) (n1 - n) (F0 m pc ls (st.map (gx_den (gg_dk G) ad))) (rest.map (gx_den (gg_dk G) ad)) ad cw v M1 n1 (vs.map (gx_den (gg_dk G) ad)).toArray)
    (hsub : ∀ q ∈ rest, q ∈ st)
    (hk : ∀ v M1 n1 c1, v ≠ gx_T → k v M1 n1 c1 = true → gxJ G Y K (pc + 3) (gx_rs (gy_s Y') v rest) L M1 n1 c1 (k v M1 n1 c1))
    (hx : ∀ M1 n1 c1, gy_x Y' = true → k gx_T M1 n1 c1 = true → ∃ v' M' n' c', K v' M' n' c' = true ∧ n1 ≤ n' ∧ c1 ≤ c' ∧ (gy_x Y = false → v' ≠ gx_T) ∧ ∀ (p : Program) (e : Env) (R : Room) (s : State) (m : MethodId) (args : Array Value) (below : List Frame) (meth : Method) (cd : Code), gxX G Y p R s m args meth cd →
      ∀ (c0 n0 : Nat) (cw0 : List gxq) (ad0 : Nat → Nat), R.cells + c0 = c' → R.slots + n0 = n' → ∀ (cells slots : Nat) (cw : List gxq) (ad : Nat → Nat) (H : Heap) (locs : List Loc) (ls : Array Slot) (q : Addr) (ce : Cell), gxU G s (gy_l Y) c0 n0 cw0 ad0 [] L M1 n1 c1 cells slots cw ad H locs ls →
        H[q]? = some ce → ce.vm = .none → s.vm.findClass "java/lang/UnsupportedOperationException" = some ce.cls →
        vx_W p (gg_l G) e R s m args below meth cd H locs cells slots (gxQ (gy_x Y) below (gxQc G (gy_s Y) ad0 cw0 v' M' n') (gxXC G ad0 cw0 v' M' n') args s R.cells R.slots (gxA G)) (F0 m pc ls (rest.map (gx_den (gg_dk G) ad))) q) : gxJ G Y K pc st L M n c true := by
  intro _
  obtain ⟨v, M1, n1, c1, h1, h2, h3, h4, hC⟩ := hM M n c k hf
  have step : ∀ {e : Env} {p : Program} {R : Room} {s : State} {m : MethodId} {args : Array Value} {below : List Frame} {meth : Method} {cd : Code} {cw : List gxq} {ad : Nat → Nat} {H : Heap} {locs L9 : List Loc} {st₀ t T' : State} {cw' : List gxq} {ad' : Nat → Nat} {ls : Array Slot} {cells slots c0 n0 : Nat} {cw0 : List gxq} {ad0 : Nat → Nat},
      gxU G s (gy_l Y) c0 n0 cw0 ad0 st L M n c cells slots cw ad H locs ls → st₀.heap = H → T'.heap = t.heap → (∀ q ∈ L9, gxA G q.base) → gx_agr cw ad ad' → gx_sb cw cw' → gxI G ad' cw' M1 n1 t.heap → va_F (gxA G) st₀ t →
      va_S (gxA G) s.heap T'.heap (locs ++ L9) ∧ gx_agr cw0 ad0 ad' ∧ gx_sb cw0 cw' ∧ gx_lc (gg_dk G) ad' (gy_l Y) ls L ∧ gv_oks (gg_cr G ++ cw') rest ∧ gv_oks (gg_cr G ++ cw') L ∧ rest.map (gx_den (gg_dk G) ad') = rest.map (gx_den (gg_dk G) ad) := by
    intro e p R s m args below meth cd cw ad H locs L9 st₀ t T' cw' ad' ls cells slots c0 n0 cw0 ad0 U h0 e1 hL ha hs hI hF
    obtain ⟨u1, u2, uI, ua, ud, uS, uL, us, ul⟩ := U
    obtain ⟨-, -, k3⟩ := vx_keep (A0 := gxA G) (A1 := gxA G) (free := gxA G) h0 e1 uS (fun _ _ h => h) (fun _ h => h) hL hF
    have ha2 : gx_agr (gg_cr G ++ cw) ad ad' := by
      intro q hq
      rcases List.mem_append.mp hq with hq | hq
      · rw [hI.2.2.2.2.2.2.2.2.2 q hq, uI.2.2.2.2.2.2.2.2.2 q hq]
      · exact ha q hq
    have hrs : gv_oks (gg_cr G ++ cw) rest := fun q hq => us q (hsub q hq)
    exact ⟨k3, gx_agr_tr ud ua ha, gx_sb_tr ud hs, gx_lc_agr uL ul ha2, gv_oks_sub hrs (gx_sb_app hs), gv_oks_sub ul (gx_sb_app hs), gs_map hrs ha2⟩
  by_cases hv : v = gx_T
  · subst hv
    have hY : gy_x Y' = true := by
      cases hb : gy_x Y' with
      | true => rfl
      | false => exact absurd rfl (h4 hb)
    obtain ⟨v', M', n', c', g1, g2, g3, g4, gg⟩ := hx M1 n1 c1 hY h1
    refine ⟨v', M', n', c', g1, Nat.le_trans h2 g2, Nat.le_trans h3 g3, g4, fun p e R s m args below meth cd X c0 n0 cw0 ad0 hc hn cells slots cw ad H locs ls U => ?_⟩
    have U0 := U
    obtain ⟨u1, u2, uI, ua, ud, uS, uL, us, ul⟩ := U
    intro T hT ST
    rcases hrun p e R s m args below meth cd X cells slots cw ad H locs ls uI uS uL us gx_T M1 n1 c1 (hC cw ad) (by omega) (by omega) T hT ST with ⟨w, st₀, t, T', L9, h0, X', hL, e1, e2, ⟨hq0, -⟩, -⟩ | ⟨q, st₀, t, T', L9, E, ce, h0, X', hL, e1, e2, ⟨-, ad', cw', hE, ha, hs, hI, hF⟩, hce, hcv, hcl, stp⟩
    · exact absurd rfl hq0
    · subst hE
      obtain ⟨k3, k4, k5, k6, k7, k8, k9⟩ := step (e := e) (p := p) (R := R) (m := m) (args := args) (below := below) (meth := meth) (cd := cd) U0 h0 e1 hL ha hs hI hF
      have w := gg p e R s m args below meth cd X c0 n0 cw0 ad0 hc hn (cells + (c1 - c)) (slots + (n1 - n)) cw' ad' T'.heap (locs ++ L9) ls q ce ⟨by omega, by omega, by rw [e1]; exact hI, k4, k5, k3, k6, gv_oks_nil, k8⟩ (by rw [e1]; exact hce) hcv hcl
      rw [k9] at w
      obtain ⟨t2, a1, b1⟩ := w T' rfl X'
      exact ⟨t2, stp.trans a1, b1⟩
  · obtain ⟨v', M', n', c', g1, g2, g3, g4, gg⟩ := hk v M1 n1 c1 hv h1 h1
    refine ⟨v', M', n', c', g1, Nat.le_trans h2 g2, Nat.le_trans h3 g3, g4, fun p e R s m args below meth cd X c0 n0 cw0 ad0 hc hn cells slots cw ad H locs ls U => ?_⟩
    have U0 := U
    obtain ⟨u1, u2, uI, ua, ud, uS, uL, us, ul⟩ := U
    intro T hT ST
    rcases hrun p e R s m args below meth cd X cells slots cw ad H locs ls uI uS uL us v M1 n1 c1 (hC cw ad) (by omega) (by omega) T hT ST with ⟨w, st₀, t, T', L9, h0, X', hL, e1, e2, ⟨hq0, ad', cw', hr, ha, hs, hI, hok, hF⟩, stp⟩ | ⟨q, st₀, t, T', L9, E, ce, h0, X', hL, e1, e2, ⟨hq0, -⟩, -⟩
    · obtain ⟨k3, k4, k5, k6, k7, k8, k9⟩ := step (e := e) (p := p) (R := R) (m := m) (args := args) (below := below) (meth := meth) (cd := cd) U0 h0 e1 hL ha hs hI hF
      have hro : gv_oks (gg_cr G ++ cw') (gx_rs (gy_s Y') v rest) := by
        unfold gx_rs
        split
        · exact k7
        · exact gv_oks_cons hok k7
      have w := gg p e R s m args below meth cd X c0 n0 cw0 ad0 hc hn (cells + (c1 - c)) (slots + (n1 - n)) cw' ad' T'.heap (locs ++ L9) ls ⟨by omega, by omega, by rw [e1]; exact hI, k4, k5, k3, k6, hro, k8⟩
      cases hr
      have hst : (gx_rs (gy_s Y') v rest).map (gx_den (gg_dk G) ad') = (gx_ret (gg_dk G) ad' (gy_s Y') v).toList ++ rest.map (gx_den (gg_dk G) ad) := by
        unfold gx_rs gx_ret
        split
        · rw [k9]; rfl
        · rw [List.map_cons, k9]; rfl
      rw [hst] at w
      obtain ⟨t2, a1, b1⟩ := w T' rfl X'
      exact ⟨t2, stp t2 a1, b1⟩
    · exact absurd hq0 hv
/-- thrown on: a caller without handlers -/
theorem gj_out (hh : gy_h Y = []) (hY : gy_x Y = true) : ∀ M1 n1 c1, K gx_T M1 n1 c1 = true → ∃ v' M' n' c', K v' M' n' c' = true ∧ n1 ≤ n' ∧ c1 ≤ c' ∧ (gy_x Y = false → v' ≠ gx_T) ∧ ∀ (p : Program) (e : Env) (R : Room) (s : State) (m : MethodId) (args : Array Value) (below : List Frame) (meth : Method) (cd : Code), gxX G Y p R s m args meth cd →
      ∀ (c0 n0 : Nat) (cw0 : List gxq) (ad0 : Nat → Nat), R.cells + c0 = c' → R.slots + n0 = n' → ∀ (cells slots : Nat) (cw : List gxq) (ad : Nat → Nat) (H : Heap) (locs : List Loc) (ls : Array Slot) (q : Addr) (ce : Cell), gxU G s (gy_l Y) c0 n0 cw0 ad0 [] L M1 n1 c1 cells slots cw ad H locs ls →
        H[q]? = some ce → ce.vm = .none → s.vm.findClass "java/lang/UnsupportedOperationException" = some ce.cls →
        vx_W p (gg_l G) e R s m args below meth cd H locs cells slots (gxQ (gy_x Y) below (gxQc G (gy_s Y) ad0 cw0 v' M' n') (gxXC G ad0 cw0 v' M' n') args s R.cells R.slots (gxA G)) (F0 m pc ls (rest.map (gx_den (gg_dk G) ad))) q := by
  intro M1 n1 c1 hK
  refine ⟨gx_T, M1, n1, c1, hK, Nat.le_refl _, Nat.le_refl _, (by intro h; rw [hY] at h; cases h), fun p e R s m args below meth cd X c0 n0 cw0 ad0 hc hn cells slots cw ad H locs ls q ce U hce hcv hcl => ?_⟩
  obtain ⟨u1, u2, uI, ua, ud, uS, uL, us, ul⟩ := U
  obtain ⟨x1, x2, x3, x4, x5, x6, x7, x8, x11, x12, x13, x14, x15, x16⟩ := X
  rw [hY]
  refine vx_out (fun x hx => ?_) x7 hce hcv hcl (fun t ht hA => ⟨rfl, ad, cw, rfl, ua, ud, by rw [ht]; exact uI, uS.F ht⟩) uS.2.2 (by omega) (by omega)
  rw [x16, hh] at hx
  exact nomatch hx
theorem gy_w0 (hh : gy_h Y' = []) : gy_w Y' y = .code y (gy_b Y') (gy_l Y') (gy_r Y') := by
  unfold gy_w
  rw [hh]
theorem gh_pay {p : Program} {R : Room} {s : State} {m : MethodId} {args : Array Value} {meth : Method} {cd : Code} (X : gxX G Y p R s m args meth cd) (hw : gy_w Y' y ∈ gx_ws) : ∀ w ∈ gy_w Y' y :: gx_ws, ∀ (a' : Array Value) (U : State), s.WarmedH U.vm → w.before a' U = true := pay_in X.2.2.2.2.2.1 (gx_goodc hw)
/-- what the tables must say of a callee -/
def gh_ok (Y Y' : gxY) (y : MethodName) (n : Nat) : Prop := gy_w Y' y ∈ gx_ws ∧ Cond.initialized y.cls ∈ gx_ws ∧ (y.cls ≠ "java/lang/invoke/MethodHandle" ∧ y.cls ≠ "java/lang/invoke/VarHandle") ∧ (parseMethodDescriptor y.desc).map (fun d => d.parameters.length) = some n ∧ gy_f Y' + 1 ≤ gy_f Y ∧ 8 + (gy_l Y' + 11) + gy_k Y' ≤ gy_k Y
theorem gh_B {p : Program} {R : Room} {s : State} {m : MethodId} {args : Array Value} {meth : Method} {cd : Code} {mc ms n index : Nat} (X : gxX G Y p R s m args meth cd) (hh : gy_h Y' = []) (hk : gh_ok Y Y' y n) (hl : Cond.methodLink (gy_o Y) index y ∈ gx_ws) :
    CallB R s args (gy_o Y) index y (gy_b Y') (gy_l Y') (gy_r Y') (gy_w Y' y :: gx_ws) { frames := gy_f Y', cells := mc, slots := ms, locals := gy_k Y' } mc ms n := by
  obtain ⟨k1, k2, k3, k4, k5, k6⟩ := hk
  have hp := gh_pay X k1
  have hx := X.2.2.2.2.2.1
  have x13 := X.2.2.2.2.2.2.2.2.2.2.1
  have x14 := X.2.2.2.2.2.2.2.2.2.2.2.1
  refine ⟨rfl, rfl, Nat.le_trans k5 x13, Nat.le_trans k6 x14, hp, by rw [gy_w0 hh]; exact List.mem_cons_self, by rw [← gy_w0 hh]; exact hx _ k1, hx _ k2, k3, fun sig h => ?_, hx _ hl⟩
  rw [h] at k4
  exact (Option.some.inj k4).symm
theorem gh_C {v M1 n1 c1 : Nat} {cw : List gxq} {ad : Nat → Nat} (hC : gxC G Y' y vs cw ad M n c v M1 n1 c1) :
    (gy_x Y' = true ∧ vx_Met (gg_l G) y (gy_w Y' y :: gx_ws) { frames := gy_f Y', cells := c1 - c, slots := n1 - n, locals := gy_k Y' } (gxPc G ad cw vs M n) (gxQc G (gy_s Y') ad cw v M1 n1) (gxXC G ad cw v M1 n1) (c1 - c) (n1 - n) (gxA G)) ∨
    (gy_x Y' = false ∧ Met (gg_l G) y (gy_w Y' y :: gx_ws) { frames := gy_f Y', cells := c1 - c, slots := n1 - n, locals := gy_k Y' } (gxPc G ad cw vs M n) (gxQc G (gy_s Y') ad cw v M1 n1) (c1 - c) (n1 - n) (gxA G)) := by
  unfold gxC at hC
  split at hC
  · next h => exact Or.inl ⟨h, hC⟩
  · next h => exact Or.inr ⟨h, hC⟩
theorem gs_recv {s : State} {cw : List gxq} {ad : Nat → Nat} {H : Heap} {locs : List Loc} {t : Nat} {C : String} {T : u_T} {N : Nat} (ht : gx_cl[t]? = some (C, T, N)) (hR : gxR G s) (hK : va_K (gg_D G) gx_cl (gx_tys (gg_cT G)) s) (uI : gxI G ad cw M n H) (uS : va_S (gxA G) s.heap H locs) (ho : gv_ok (gg_cr G ++ cw) (gR t x)) (hx : x ≠ 0) :
    ∃ cellB : Cell, H[ad x]? = some cellB ∧ cellB.vm.isStatics = false ∧ s.vm.findClass C = some cellB.cls := by
  obtain ⟨g1, g2, g3⟩ := gk ht
  obtain ⟨z, hz, z1, z2⟩ := gs_find ho hx
  subst z1
  rcases List.mem_append.mp hz with hz | hz
  · obtain ⟨r1, r2, r3, r4⟩ := hR z hz
    obtain ⟨⟨r5, -⟩, r6, -⟩ := r3 (by omega)
    rw [uI.2.2.2.2.2.2.2.2.2 z hz]
    obtain ⟨cell, h1, h2, h3, -⟩ := r6.kept uS.2.1
    refine ⟨cell, h1, h2, ?_⟩
    have e8 : C = RJ0 := by
      rw [← z2, r5] at ht
      cases ht
      rfl
    rw [e8]
    exact h3
  · have hP := gs_one uI hz
    rw [gs_obj (by omega), z2] at hP
    exact va_recv hK hP ht (q0 := 0) rfl
def gh_st (dk ad : Nat → Nat) (vs rest : List gxV) : List Value := (vs.map (gx_den dk ad)).reverse ++ rest.map (gx_den dk ad)
theorem gh_V {index t : Nat} {C : String} {T : u_T} {N : Nat} (hdg : decode (gy_b Y) pc = .ok (.invokevirtual index, 3)) (hst : st = vs.reverse ++ gR t x :: rest) (hx : x ≠ 0) (ht : gx_cl[t]? = some (C, T, N)) (hh : gy_h Y' = []) (hk : gh_ok Y Y' y vs.length) (hl : Cond.methodLink (gy_o Y) index y ∈ gx_ws) (hi : Cond.instanceMethod y ∈ gx_ws) (hs : Cond.selects C y y ∈ gx_ws) (hcat : gx_cats rest ≤ 8) :
    ∀ (p : Program) (e : Env) (R : Room) (s : State) (m : MethodId) (args : Array Value) (below : List Frame) (meth : Method) (cd : Code), gxX G Y p R s m args meth cd →
      ∀ (cells slots : Nat) (cw : List gxq) (ad : Nat → Nat) (H : Heap) (locs : List Loc) (ls : Array Slot), gxI G ad cw M n H → va_S (gxA G) s.heap H locs → gx_lc (gg_dk G) ad (gy_l Y) ls L → gv_oks (gg_cr G ++ cw) st → ∀ v M1 n1 c1 : Nat, gxC G Y' y (gR t x :: vs) cw ad M n c v M1 n1 c1 → cells + (c1 - c) ≤ R.cells → slots + (n1 - n) ≤ R.slots →
        gxRun G Y' p e R s m args below meth cd H locs cells slots (c1 - c) (n1 - n) (F0 m pc ls (st.map (gx_den (gg_dk G) ad))) (rest.map (gx_den (gg_dk G) ad)) ad cw v M1 n1 ((gR t x :: vs).map (gx_den (gg_dk G) ad)).toArray := by
  intro p e R s m args below meth cd X cells slots cw ad H locs ls uI uS uL us v M1 n1 c1 hC hc9 hn9
  subst hst
  have us2 : gv_oks (gg_cr G ++ cw) (gR t x :: vs) := fun w hw => us w (by rcases List.mem_cons.mp hw with e | e <;> simp [e])
  have hB : CallB R s args (gy_o Y) index y (gy_b Y') (gy_l Y') (gy_r Y') (gy_w Y' y :: gx_ws) { frames := gy_f Y', cells := c1 - c, slots := n1 - n, locals := gy_k Y' } (c1 - c) (n1 - n) vs.length := gh_B X hh hk hl
  obtain ⟨x1, x2, x3, x4, x5, x6, x7, ⟨x8, x9, x10⟩, x11, x12⟩ := X
  have hcw : CallW R s args (gy_o Y) C index y (gy_b Y') (gy_l Y') (gy_r Y') (gy_w Y' y :: gx_ws) { frames := gy_f Y', cells := c1 - c, slots := n1 - n, locals := gy_k Y' } (c1 - c) (n1 - n) vs.length := ⟨hB, x6 _ hi, x6 _ hs⟩
  have hpre := gxPc_at x8 uI us2
  rw [List.map_cons, gs_ref hx] at hpre
  have hPV : PreV s H C (ad x) (gxPc G ad cw (gR t x :: vs) M n) (vs.map (gx_den (gg_dk G) ad)) := ⟨gxPc_blind, gs_recv ht x9 x11 uI uS (us2 _ List.mem_cons_self) hx, hpre⟩
  have hsk : ((vs.reverse ++ gR t x :: rest).map (gx_den (gg_dk G) ad)) = (vs.map (gx_den (gg_dk G) ad)).reverse ++ .ref (ad x) :: rest.map (gx_den (gg_dk G) ad) := by
    rw [List.map_append, List.map_reverse, List.map_cons, gs_ref hx]
  have hW8 : 2 * (F0 m pc ls ((vs.reverse ++ gR t x :: rest).map (gx_den (gg_dk G) ad))).monitorRoom + ((rest.map (gx_den (gg_dk G) ad)).map fun v => v.category).sum ≤ 8 := lv_room (Nat.le_trans (gx_cats_sum rest) hcat)
  rw [List.map_cons, gs_ref hx]
  rcases gh_C hC with ⟨-, hM⟩ | ⟨-, hM⟩
  · exact vx_runV ⟨x1, x2, x3, x5, x6⟩ hM hcw hPV rfl (by rw [List.length_map]) uL.1 hsk hW8 hdg ⟨hc9, hn9⟩
  · exact va_to_vx (va_runV ⟨x1, x2, x3, x5, x6⟩ hM hcw hPV rfl (by rw [List.length_map]) uL.1 hsk hW8 hdg ⟨hc9, hn9⟩)
theorem gh_pack {p : Program} {R : Room} {s : State} {m : MethodId} {args : Array Value} {meth : Method} {cd : Code} {mc ms n : Nat} (X : gxX G Y p R s m args meth cd) (hh : gy_h Y' = []) (hk : gh_ok Y Y' y n) :
    (({ frames := gy_f Y', cells := mc, slots := ms, locals := gy_k Y' } : Room).cells = mc ∧ ({ frames := gy_f Y', cells := mc, slots := ms, locals := gy_k Y' } : Room).slots = ms ∧ ({ frames := gy_f Y', cells := mc, slots := ms, locals := gy_k Y' } : Room).frames + 1 ≤ R.frames ∧ 8 + (gy_l Y' + 11) + ({ frames := gy_f Y', cells := mc, slots := ms, locals := gy_k Y' } : Room).locals ≤ R.locals ∧ (∀ w ∈ gy_w Y' y :: gx_ws, ∀ (a' : Array Value) (U : State), s.WarmedH U.vm → w.before a' U = true) ∧ Cond.code y (gy_b Y') (gy_l Y') (gy_r Y') ∈ gy_w Y' y :: gx_ws) ∧ (Cond.code y (gy_b Y') (gy_l Y') (gy_r Y')).before args s = true ∧ (Cond.initialized y.cls).before args s = true ∧ (y.cls ≠ "java/lang/invoke/MethodHandle" ∧ y.cls ≠ "java/lang/invoke/VarHandle") ∧ (∀ sig, parseMethodDescriptor y.desc = some sig → n = sig.parameters.length) := by
  obtain ⟨k1, k2, k3, k4, k5, k6⟩ := hk
  have hp := gh_pay X k1
  have hx := X.2.2.2.2.2.1
  have x13 := X.2.2.2.2.2.2.2.2.2.2.1
  have x14 := X.2.2.2.2.2.2.2.2.2.2.2.1
  refine ⟨⟨rfl, rfl, Nat.le_trans k5 x13, Nat.le_trans k6 x14, hp, by rw [gy_w0 hh]; exact List.mem_cons_self⟩, by rw [← gy_w0 hh]; exact hx _ k1, hx _ k2, k3, fun sig h => ?_⟩
  rw [h] at k4
  exact (Option.some.inj k4).symm
theorem gh_U {index t : Nat} {C : String} {T : u_T} {N : Nat} (hdg : decode (gy_b Y) pc = .ok (.invokevirtual index, 3)) (hst : st = vs.reverse ++ gR t x :: rest) (hx : x ≠ 0) (ht : gx_cl[t]? = some (C, T, N)) (hk : gh_ok Y Y' y vs.length) {x0 : MethodName} (hx' : gy_x Y' = false) (hh : gy_h Y' = []) (hl : Cond.methodLink (gy_o Y) index x0 ∈ gx_ws) (hd0 : x0.desc = y.desc) (hsm : Cond.sameMethod x0.cls x0.cls x0.name x0.desc ∈ gx_ws) (hi0 : Cond.instanceMethod x0 ∈ gx_ws) (hco : ∃ b0 m0 r0, Cond.code x0 b0 m0 r0 ∈ gx_ws) (hmh : x0.cls ≠ "java/lang/invoke/MethodHandle" ∧ x0.cls ≠ "java/lang/invoke/VarHandle") (hi : Cond.instanceMethod y ∈ gx_ws) (hs : Cond.selects C x0 y ∈ gx_ws) (hcat : gx_cats rest ≤ 8) :
    ∀ (p : Program) (e : Env) (R : Room) (s : State) (m : MethodId) (args : Array Value) (below : List Frame) (meth : Method) (cd : Code), gxX G Y p R s m args meth cd →
      ∀ (cells slots : Nat) (cw : List gxq) (ad : Nat → Nat) (H : Heap) (locs : List Loc) (ls : Array Slot), gxI G ad cw M n H → va_S (gxA G) s.heap H locs → gx_lc (gg_dk G) ad (gy_l Y) ls L → gv_oks (gg_cr G ++ cw) st → ∀ v M1 n1 c1 : Nat, gxC G Y' y (gR t x :: vs) cw ad M n c v M1 n1 c1 → cells + (c1 - c) ≤ R.cells → slots + (n1 - n) ≤ R.slots →
        gxRun G Y' p e R s m args below meth cd H locs cells slots (c1 - c) (n1 - n) (F0 m pc ls (st.map (gx_den (gg_dk G) ad))) (rest.map (gx_den (gg_dk G) ad)) ad cw v M1 n1 ((gR t x :: vs).map (gx_den (gg_dk G) ad)).toArray := by
  intro p e R s m args below meth cd X cells slots cw ad H locs ls uI uS uL us v M1 n1 c1 hC hc9 hn9
  subst hst
  have us2 : gv_oks (gg_cr G ++ cw) (gR t x :: vs) := fun w hw => us w (by rcases List.mem_cons.mp hw with e | e <;> simp [e])
  have X0 := X
  obtain ⟨x1, x2, x3, x4, x5, x6, x7, ⟨x8, x9, x10⟩, x11, x12, x13, x14, x15⟩ := X
  have hpre := gxPc_at x8 uI us2
  rw [List.map_cons, gs_ref hx] at hpre
  have hrc := gs_recv ht x9 x11 uI uS (us2 _ List.mem_cons_self) hx
  have hsk : ((vs.reverse ++ gR t x :: rest).map (gx_den (gg_dk G) ad)) = (vs.map (gx_den (gg_dk G) ad)).reverse ++ .ref (ad x) :: rest.map (gx_den (gg_dk G) ad) := by
    rw [List.map_append, List.map_reverse, List.map_cons, gs_ref hx]
  have hW8 : 2 * (F0 m pc ls ((vs.reverse ++ gR t x :: rest).map (gx_den (gg_dk G) ad))).monitorRoom + ((rest.map (gx_den (gg_dk G) ad)).map fun v => v.category).sum ≤ 8 := lv_room (Nat.le_trans (gx_cats_sum rest) hcat)
  obtain ⟨k1, k2, k3, k4, k5⟩ := gh_pack (mc := c1 - c) (ms := n1 - n) (args := args) X0 hh hk
  obtain ⟨b0, m0, r0, hco⟩ := hco
  have hcw : va_CU R s args (gy_o Y) C x0.cls index x0 y (gy_b Y') (gy_l Y') (gy_r Y') (gy_w Y' y :: gx_ws) { frames := gy_f Y', cells := c1 - c, slots := n1 - n, locals := gy_k Y' } (c1 - c) (n1 - n) vs.length :=
    ⟨k1, k2, k3, hmh, fun sig h => k5 sig (by rw [← hd0]; exact h), x6 _ hl, x6 _ hsm, va_Decl.of (x6 _ hi0) (x6 _ hco), x6 _ hs, x6 _ hi⟩
  have hPV : PreV s H C (ad x) (gxPc G ad cw (gR t x :: vs) M n) (vs.map (gx_den (gg_dk G) ad)) := ⟨gxPc_blind, hrc, hpre⟩
  rw [List.map_cons, gs_ref hx]
  rcases gh_C hC with ⟨hq, -⟩ | ⟨-, hM⟩
  · rw [hx'] at hq; cases hq
  · exact va_to_vx (va_runU ⟨x1, x2, x3, x5, x6⟩ hM hcw hPV rfl (by rw [List.length_map]) uL.1 hsk hW8 hdg ⟨hc9, hn9⟩)
theorem gh_SU {index t : Nat} {C : String} {T : u_T} {N : Nat} (hdg : decode (gy_b Y) pc = .ok (.invokespecial index, 3)) (hst : st = vs.reverse ++ gR t x :: rest) (hx : x ≠ 0) (ht : gx_cl[t]? = some (C, T, N)) (hk : gh_ok Y Y' y vs.length) (hx' : gy_x Y' = false) (hh : gy_h Y' = []) (hno : y.name ≠ "<init>") (hl : Cond.methodLink (gy_o Y) index y ∈ gx_ws) (hsm : Cond.sameMethod y.cls y.cls y.name y.desc ∈ gx_ws) (hsu : Cond.superclass (gy_o Y) y.cls ∈ gx_ws) (hi : Cond.instanceMethod y ∈ gx_ws) (hcat : gx_cats rest ≤ 8) :
    ∀ (p : Program) (e : Env) (R : Room) (s : State) (m : MethodId) (args : Array Value) (below : List Frame) (meth : Method) (cd : Code), gxX G Y p R s m args meth cd →
      ∀ (cells slots : Nat) (cw : List gxq) (ad : Nat → Nat) (H : Heap) (locs : List Loc) (ls : Array Slot), gxI G ad cw M n H → va_S (gxA G) s.heap H locs → gx_lc (gg_dk G) ad (gy_l Y) ls L → gv_oks (gg_cr G ++ cw) st → ∀ v M1 n1 c1 : Nat, gxC G Y' y (gR t x :: vs) cw ad M n c v M1 n1 c1 → cells + (c1 - c) ≤ R.cells → slots + (n1 - n) ≤ R.slots →
        gxRun G Y' p e R s m args below meth cd H locs cells slots (c1 - c) (n1 - n) (F0 m pc ls (st.map (gx_den (gg_dk G) ad))) (rest.map (gx_den (gg_dk G) ad)) ad cw v M1 n1 ((gR t x :: vs).map (gx_den (gg_dk G) ad)).toArray := by
  intro p e R s m args below meth cd X cells slots cw ad H locs ls uI uS uL us v M1 n1 c1 hC hc9 hn9
  subst hst
  have us2 : gv_oks (gg_cr G ++ cw) (gR t x :: vs) := fun w hw => us w (by rcases List.mem_cons.mp hw with e | e <;> simp [e])
  have X0 := X
  obtain ⟨x1, x2, x3, x4, x5, x6, x7, ⟨x8, x9, x10⟩, x11, x12, x13, x14, x15⟩ := X
  have hpre := gxPc_at x8 uI us2
  rw [List.map_cons, gs_ref hx] at hpre
  have hrc := gs_recv ht x9 x11 uI uS (us2 _ List.mem_cons_self) hx
  have hsk : ((vs.reverse ++ gR t x :: rest).map (gx_den (gg_dk G) ad)) = (vs.map (gx_den (gg_dk G) ad)).reverse ++ .ref (ad x) :: rest.map (gx_den (gg_dk G) ad) := by
    rw [List.map_append, List.map_reverse, List.map_cons, gs_ref hx]
  have hW8 : 2 * (F0 m pc ls ((vs.reverse ++ gR t x :: rest).map (gx_den (gg_dk G) ad))).monitorRoom + ((rest.map (gx_den (gg_dk G) ad)).map fun v => v.category).sum ≤ 8 := lv_room (Nat.le_trans (gx_cats_sum rest) hcat)
  obtain ⟨k1, k2, k3, k4, k5⟩ := gh_pack (mc := c1 - c) (ms := n1 - n) (args := args) X0 hh hk
  have hcw : va_CS R s args (gy_o Y) index y (gy_b Y') (gy_l Y') (gy_r Y') (gy_w Y' y :: gx_ws) { frames := gy_f Y', cells := c1 - c, slots := n1 - n, locals := gy_k Y' } (c1 - c) (n1 - n) vs.length :=
    ⟨k1, x6 _ hl, x6 _ hsm, x6 _ hsu, x6 _ hi, k3, k2, hno, k5⟩
  have hPV : PreV s H C (ad x) (gxPc G ad cw (gR t x :: vs) M n) (vs.map (gx_den (gg_dk G) ad)) := ⟨gxPc_blind, hrc, hpre⟩
  have hat := (x11.1 t _ ht).2
  rw [List.map_cons, gs_ref hx]
  rcases gh_C hC with ⟨hq, -⟩ | ⟨-, hM⟩
  · rw [hx'] at hq; cases hq
  · exact va_to_vx (va_runSU hat ⟨x1, x2, x3, x5, x6⟩ hM hcw hPV rfl (by rw [List.length_map]) uL.1 hsk hW8 hdg ⟨hc9, hn9⟩)
theorem gh_I {index t : Nat} {C : String} {T : u_T} {N : Nat} (hdg : decode (gy_b Y) pc = .ok (.invokespecial index, 3)) (hst : st = vs.reverse ++ gR t x :: rest) (hx : x ≠ 0) (ht : gx_cl[t]? = some (C, T, N)) (hk : gh_ok Y Y' y vs.length) (hx' : gy_x Y' = false) (hh : gy_h Y' = []) (hr : gy_r Y' = none) (hno : y.name = "<init>") (hl : Cond.methodLink (gy_o Y) index y ∈ gx_ws) (hi : Cond.instanceMethod y ∈ gx_ws) (hcat : gx_cats rest ≤ 8) :
    ∀ (p : Program) (e : Env) (R : Room) (s : State) (m : MethodId) (args : Array Value) (below : List Frame) (meth : Method) (cd : Code), gxX G Y p R s m args meth cd →
      ∀ (cells slots : Nat) (cw : List gxq) (ad : Nat → Nat) (H : Heap) (locs : List Loc) (ls : Array Slot), gxI G ad cw M n H → va_S (gxA G) s.heap H locs → gx_lc (gg_dk G) ad (gy_l Y) ls L → gv_oks (gg_cr G ++ cw) st → ∀ v M1 n1 c1 : Nat, gxC G Y' y (gR t x :: vs) cw ad M n c v M1 n1 c1 → cells + (c1 - c) ≤ R.cells → slots + (n1 - n) ≤ R.slots →
        gxRun G Y' p e R s m args below meth cd H locs cells slots (c1 - c) (n1 - n) (F0 m pc ls (st.map (gx_den (gg_dk G) ad))) (rest.map (gx_den (gg_dk G) ad)) ad cw v M1 n1 ((gR t x :: vs).map (gx_den (gg_dk G) ad)).toArray := by
  intro p e R s m args below meth cd X cells slots cw ad H locs ls uI uS uL us v M1 n1 c1 hC hc9 hn9
  subst hst
  have us2 : gv_oks (gg_cr G ++ cw) (gR t x :: vs) := fun w hw => us w (by rcases List.mem_cons.mp hw with e | e <;> simp [e])
  have X0 := X
  obtain ⟨x1, x2, x3, x4, x5, x6, x7, ⟨x8, x9, x10⟩, x11, x12, x13, x14, x15⟩ := X
  have hpre := gxPc_at x8 uI us2
  rw [List.map_cons, gs_ref hx] at hpre
  have hrc := gs_recv ht x9 x11 uI uS (us2 _ List.mem_cons_self) hx
  have hsk : ((vs.reverse ++ gR t x :: rest).map (gx_den (gg_dk G) ad)) = (vs.map (gx_den (gg_dk G) ad)).reverse ++ .ref (ad x) :: rest.map (gx_den (gg_dk G) ad) := by
    rw [List.map_append, List.map_reverse, List.map_cons, gs_ref hx]
  have hW8 : 2 * (F0 m pc ls ((vs.reverse ++ gR t x :: rest).map (gx_den (gg_dk G) ad))).monitorRoom + ((rest.map (gx_den (gg_dk G) ad)).map fun v => v.category).sum ≤ 8 := lv_room (Nat.le_trans (gx_cats_sum rest) hcat)
  have hB : CallB R s args (gy_o Y) index y (gy_b Y') (gy_l Y') (gy_r Y') (gy_w Y' y :: gx_ws) { frames := gy_f Y', cells := c1 - c, slots := n1 - n, locals := gy_k Y' } (c1 - c) (n1 - n) vs.length := gh_B X0 hh hk hl
  rw [hr] at hB
  have hPS : PreS s H (gxPc G ad cw (gR t x :: vs) M n) (.ref (ad x) :: vs.map (gx_den (gg_dk G) ad)) := ⟨gxPc_blind, hpre⟩
  rw [List.map_cons, gs_ref hx]
  rcases gh_C hC with ⟨hq, -⟩ | ⟨-, hM⟩
  · rw [hx'] at hq; cases hq
  · exact va_to_vx (va_runI ⟨x1, x2, x3, x5, x6⟩ hM ⟨hB, hno, x6 _ hi⟩ hPS rfl (by rw [List.length_map]) uL.1 hsk hW8 hdg ⟨hc9, hn9⟩)
theorem gh_IN {index t : Nat} {C : String} {T : u_T} {N : Nat} (hdg : decode (gy_b Y) pc = .ok (.invokespecial index, 3)) (hst : st = vs.reverse ++ gR t x :: rest) (hx : x ≠ 0) (ht : gx_cl[t]? = some (C, T, N)) (hk : gh_ok Y Y' y vs.length) {host : String} (hx' : gy_x Y' = false) (hh : gy_h Y' = []) (hr : gy_r Y' = none) (hno : y.name = "<init>") (hl : Cond.methodLinkNest (gy_o Y) index y host ∈ gx_ws) (hi : Cond.instanceMethod y ∈ gx_ws) (hcat : gx_cats rest ≤ 8) :
    ∀ (p : Program) (e : Env) (R : Room) (s : State) (m : MethodId) (args : Array Value) (below : List Frame) (meth : Method) (cd : Code), gxX G Y p R s m args meth cd →
      ∀ (cells slots : Nat) (cw : List gxq) (ad : Nat → Nat) (H : Heap) (locs : List Loc) (ls : Array Slot), gxI G ad cw M n H → va_S (gxA G) s.heap H locs → gx_lc (gg_dk G) ad (gy_l Y) ls L → gv_oks (gg_cr G ++ cw) st → ∀ v M1 n1 c1 : Nat, gxC G Y' y (gR t x :: vs) cw ad M n c v M1 n1 c1 → cells + (c1 - c) ≤ R.cells → slots + (n1 - n) ≤ R.slots →
        gxRun G Y' p e R s m args below meth cd H locs cells slots (c1 - c) (n1 - n) (F0 m pc ls (st.map (gx_den (gg_dk G) ad))) (rest.map (gx_den (gg_dk G) ad)) ad cw v M1 n1 ((gR t x :: vs).map (gx_den (gg_dk G) ad)).toArray := by
  intro p e R s m args below meth cd X cells slots cw ad H locs ls uI uS uL us v M1 n1 c1 hC hc9 hn9
  subst hst
  have us2 : gv_oks (gg_cr G ++ cw) (gR t x :: vs) := fun w hw => us w (by rcases List.mem_cons.mp hw with e | e <;> simp [e])
  have X0 := X
  obtain ⟨x1, x2, x3, x4, x5, x6, x7, ⟨x8, x9, x10⟩, x11, x12, x13, x14, x15⟩ := X
  have hpre := gxPc_at x8 uI us2
  rw [List.map_cons, gs_ref hx] at hpre
  have hrc := gs_recv ht x9 x11 uI uS (us2 _ List.mem_cons_self) hx
  have hsk : ((vs.reverse ++ gR t x :: rest).map (gx_den (gg_dk G) ad)) = (vs.map (gx_den (gg_dk G) ad)).reverse ++ .ref (ad x) :: rest.map (gx_den (gg_dk G) ad) := by
    rw [List.map_append, List.map_reverse, List.map_cons, gs_ref hx]
  have hW8 : 2 * (F0 m pc ls ((vs.reverse ++ gR t x :: rest).map (gx_den (gg_dk G) ad))).monitorRoom + ((rest.map (gx_den (gg_dk G) ad)).map fun v => v.category).sum ≤ 8 := lv_room (Nat.le_trans (gx_cats_sum rest) hcat)
  obtain ⟨k1, k2, k3, k4, k5⟩ := gh_pack (mc := c1 - c) (ms := n1 - n) (args := args) X0 hh hk
  have hcw : va_CN R s args (gy_o Y) index y host (gy_b Y') (gy_l Y') (gy_r Y') (gy_w Y' y :: gx_ws) { frames := gy_f Y', cells := c1 - c, slots := n1 - n, locals := gy_k Y' } (c1 - c) (n1 - n) vs.length := ⟨k1, k2, k3, k4, k5, x6 _ hl⟩
  rw [hr] at hcw
  have hPS : PreS s H (gxPc G ad cw (gR t x :: vs) M n) (.ref (ad x) :: vs.map (gx_den (gg_dk G) ad)) := ⟨gxPc_blind, hpre⟩
  rw [List.map_cons, gs_ref hx]
  rcases gh_C hC with ⟨hq, -⟩ | ⟨-, hM⟩
  · rw [hx'] at hq; cases hq
  · exact va_to_vx (va_runIN ⟨x1, x2, x3, x5, x6⟩ hM ⟨hcw, hno, x6 _ hi⟩ hPS rfl (by rw [List.length_map]) uL.1 hsk hW8 hdg ⟨hc9, hn9⟩)
theorem gh_S {index : Nat} (hdg : decode (gy_b Y) pc = .ok (.invokestatic index, 3)) (hst : st = vs.reverse ++ rest) (hk : gh_ok Y Y' y vs.length) (hx' : gy_x Y' = false) (hh : gy_h Y' = []) (hl : Cond.methodLink (gy_o Y) index y ∈ gx_ws) (hs : Cond.static y ∈ gx_ws) (hcat : gx_cats rest ≤ 8) :
    ∀ (p : Program) (e : Env) (R : Room) (s : State) (m : MethodId) (args : Array Value) (below : List Frame) (meth : Method) (cd : Code), gxX G Y p R s m args meth cd →
      ∀ (cells slots : Nat) (cw : List gxq) (ad : Nat → Nat) (H : Heap) (locs : List Loc) (ls : Array Slot), gxI G ad cw M n H → va_S (gxA G) s.heap H locs → gx_lc (gg_dk G) ad (gy_l Y) ls L → gv_oks (gg_cr G ++ cw) st → ∀ v M1 n1 c1 : Nat, gxC G Y' y vs cw ad M n c v M1 n1 c1 → cells + (c1 - c) ≤ R.cells → slots + (n1 - n) ≤ R.slots →
        gxRun G Y' p e R s m args below meth cd H locs cells slots (c1 - c) (n1 - n) (F0 m pc ls (st.map (gx_den (gg_dk G) ad))) (rest.map (gx_den (gg_dk G) ad)) ad cw v M1 n1 (vs.map (gx_den (gg_dk G) ad)).toArray := by
  intro p e R s m args below meth cd X cells slots cw ad H locs ls uI uS uL us v M1 n1 c1 hC hc9 hn9
  subst hst
  have us2 : gv_oks (gg_cr G ++ cw) vs := fun w hw => us w (by simp [hw])
  have X0 := X
  obtain ⟨x1, x2, x3, x4, x5, x6, x7, ⟨x8, x9, x10⟩, x11, x12, x13, x14, x15⟩ := X
  have hPS : PreS s H (gxPc G ad cw vs M n) (vs.map (gx_den (gg_dk G) ad)) := ⟨gxPc_blind, gxPc_at x8 uI us2⟩
  have hsk : ((vs.reverse ++ rest).map (gx_den (gg_dk G) ad)) = (vs.map (gx_den (gg_dk G) ad)).reverse ++ rest.map (gx_den (gg_dk G) ad) := by
    rw [List.map_append, List.map_reverse]
  have hW8 : 2 * (F0 m pc ls ((vs.reverse ++ rest).map (gx_den (gg_dk G) ad))).monitorRoom + ((rest.map (gx_den (gg_dk G) ad)).map fun v => v.category).sum ≤ 8 := lv_room (Nat.le_trans (gx_cats_sum rest) hcat)
  have hB : CallB R s args (gy_o Y) index y (gy_b Y') (gy_l Y') (gy_r Y') (gy_w Y' y :: gx_ws) { frames := gy_f Y', cells := c1 - c, slots := n1 - n, locals := gy_k Y' } (c1 - c) (n1 - n) vs.length := gh_B X0 hh hk hl
  rcases gh_C hC with ⟨hq, -⟩ | ⟨-, hM⟩
  · rw [hx'] at hq; cases hq
  · exact va_to_vx (va_runS ⟨x1, x2, x3, x5, x6⟩ hM ⟨hB, x6 _ hs⟩ hPS rfl (by rw [List.length_map]) uL.1 hsk hW8 hdg ⟨hc9, hn9⟩)
theorem gh_SN {index : Nat} (hdg : decode (gy_b Y) pc = .ok (.invokestatic index, 3)) (hst : st = vs.reverse ++ rest) (hk : gh_ok Y Y' y vs.length) {host : String} (hx' : gy_x Y' = false) (hh : gy_h Y' = []) (hl : Cond.methodLinkNest (gy_o Y) index y host ∈ gx_ws) (hs : Cond.static y ∈ gx_ws) (hcat : gx_cats rest ≤ 8) :
    ∀ (p : Program) (e : Env) (R : Room) (s : State) (m : MethodId) (args : Array Value) (below : List Frame) (meth : Method) (cd : Code), gxX G Y p R s m args meth cd →
      ∀ (cells slots : Nat) (cw : List gxq) (ad : Nat → Nat) (H : Heap) (locs : List Loc) (ls : Array Slot), gxI G ad cw M n H → va_S (gxA G) s.heap H locs → gx_lc (gg_dk G) ad (gy_l Y) ls L → gv_oks (gg_cr G ++ cw) st → ∀ v M1 n1 c1 : Nat, gxC G Y' y vs cw ad M n c v M1 n1 c1 → cells + (c1 - c) ≤ R.cells → slots + (n1 - n) ≤ R.slots →
        gxRun G Y' p e R s m args below meth cd H locs cells slots (c1 - c) (n1 - n) (F0 m pc ls (st.map (gx_den (gg_dk G) ad))) (rest.map (gx_den (gg_dk G) ad)) ad cw v M1 n1 (vs.map (gx_den (gg_dk G) ad)).toArray := by
  intro p e R s m args below meth cd X cells slots cw ad H locs ls uI uS uL us v M1 n1 c1 hC hc9 hn9
  subst hst
  have us2 : gv_oks (gg_cr G ++ cw) vs := fun w hw => us w (by simp [hw])
  have X0 := X
  obtain ⟨x1, x2, x3, x4, x5, x6, x7, ⟨x8, x9, x10⟩, x11, x12, x13, x14, x15⟩ := X
  have hPS : PreS s H (gxPc G ad cw vs M n) (vs.map (gx_den (gg_dk G) ad)) := ⟨gxPc_blind, gxPc_at x8 uI us2⟩
  have hsk : ((vs.reverse ++ rest).map (gx_den (gg_dk G) ad)) = (vs.map (gx_den (gg_dk G) ad)).reverse ++ rest.map (gx_den (gg_dk G) ad) := by
    rw [List.map_append, List.map_reverse]
  have hW8 : 2 * (F0 m pc ls ((vs.reverse ++ rest).map (gx_den (gg_dk G) ad))).monitorRoom + ((rest.map (gx_den (gg_dk G) ad)).map fun v => v.category).sum ≤ 8 := lv_room (Nat.le_trans (gx_cats_sum rest) hcat)
  obtain ⟨k1, k2, k3, k4, k5⟩ := gh_pack (mc := c1 - c) (ms := n1 - n) (args := args) X0 hh hk
  have hcw : va_CN R s args (gy_o Y) index y host (gy_b Y') (gy_l Y') (gy_r Y') (gy_w Y' y :: gx_ws) { frames := gy_f Y', cells := c1 - c, slots := n1 - n, locals := gy_k Y' } (c1 - c) (n1 - n) vs.length := ⟨k1, k2, k3, k4, k5, x6 _ hl⟩
  rcases gh_C hC with ⟨hq, -⟩ | ⟨-, hM⟩
  · rw [hx'] at hq; cases hq
  · exact va_to_vx (va_runSN ⟨x1, x2, x3, x5, x6⟩ hM ⟨hcw, x6 _ hs, trivial⟩ hPS rfl (by rw [List.length_map]) uL.1 hsk hW8 hdg ⟨hc9, hn9⟩)
theorem gj_nn {e : Bool} (h : x ≠ 0 → gxJ G Y K pc st L M n c e) : gxJ G Y K pc st L M n c (gx_nn x e) := fun h2 => by
  obtain ⟨h3, h4⟩ := gb_f h2
  exact h (gb_nbeq h3) h4
theorem gx_thr_t {v M n c : Nat} {e : Bool} (h : gx_thr K v M n c e = true) : (v = gx_T ∧ K gx_T M n c = true) ∨ (v ≠ gx_T ∧ e = true) := by
  unfold gx_thr at h
  rcases gb_true h with ⟨h1, h2⟩ | ⟨h1, h2⟩
  · exact Or.inl ⟨gb_beq h1, h2⟩
  · exact Or.inr ⟨gb_nbeq h1, h2⟩
/-- a call of a method that doesn't throw -/
theorem gj_c0 {rs : Nat → List gxV} (a : List gxV) (hst : st = a ++ rest) (hM : gxM G Y' y vs f) (hx' : gy_x Y' = false) (hrun : ∀ (p : Program) (e : Env) (R : Room) (s : State) (m : MethodId) (args : Array Value) (below : List Frame) (meth : Method) (cd : Code), gxX G Y p R s m args meth cd →
      ∀ (cells slots : Nat) (cw : List gxq) (ad : Nat → Nat) (H : Heap) (locs : List Loc) (ls : Array Slot), gxI G ad cw M n H → va_S (gxA G) s.heap H locs → gx_lc (gg_dk G) ad (gy_l Y) ls L → gv_oks (gg_cr G ++ cw) st → ∀ v M1 n1 c1 : Nat, gxC G Y' y vs cw ad M n c v M1 n1 c1 → cells + (c1 - c) ≤ R.cells → slots + (n1 - n) ≤ R.slots →
        gxRun G Y' p e R s m args below meth cd H locs cells slots (c1 - c) (n1 - n) (F0 m pc ls (st.map (gx_den (gg_dk G) ad))) (rest.map (gx_den (gg_dk G) ad)) ad cw v M1 n1 (vs.map (gx_den (gg_dk G) ad)).toArray)
    (hrs : ∀ v, gx_rs (gy_s Y') v rest = rs v) (hk : ∀ v M1 n1 c1, gxJ G Y K (pc + 3) (rs v) L M1 n1 c1 (k v M1 n1 c1)) : gxJ G Y K pc st L M n c (f M n c k) := fun h =>
  gj_call hM h hrun (fun q hq => by rw [hst]; exact List.mem_append_right _ hq) (fun v M1 n1 c1 _ _ => by rw [hrs]; exact hk v M1 n1 c1) (fun M1 n1 c1 hq _ => by rw [hx'] at hq; cases hq) rfl
/-- a call of a method that may throw, by one that has no handlers -/
theorem gj_c1 {rs : Nat → List gxV} (a : List gxV) (hst : st = a ++ rest) (hM : gxM G Y' y vs f) (hY : gy_x Y = true) (hh : gy_h Y = []) (hrun : ∀ (p : Program) (e : Env) (R : Room) (s : State) (m : MethodId) (args : Array Value) (below : List Frame) (meth : Method) (cd : Code), gxX G Y p R s m args meth cd →
      ∀ (cells slots : Nat) (cw : List gxq) (ad : Nat → Nat) (H : Heap) (locs : List Loc) (ls : Array Slot), gxI G ad cw M n H → va_S (gxA G) s.heap H locs → gx_lc (gg_dk G) ad (gy_l Y) ls L → gv_oks (gg_cr G ++ cw) st → ∀ v M1 n1 c1 : Nat, gxC G Y' y vs cw ad M n c v M1 n1 c1 → cells + (c1 - c) ≤ R.cells → slots + (n1 - n) ≤ R.slots →
        gxRun G Y' p e R s m args below meth cd H locs cells slots (c1 - c) (n1 - n) (F0 m pc ls (st.map (gx_den (gg_dk G) ad))) (rest.map (gx_den (gg_dk G) ad)) ad cw v M1 n1 (vs.map (gx_den (gg_dk G) ad)).toArray)
    (hrs : ∀ v, gx_rs (gy_s Y') v rest = rs v) (hk : ∀ v M1 n1 c1, gxJ G Y K (pc + 3) (rs v) L M1 n1 c1 (k v M1 n1 c1)) : gxJ G Y K pc st L M n c (f M n c (fun v M n c => gx_thr K v M n c (k v M n c))) := fun h =>
  gj_call hM h hrun (fun q hq => by rw [hst]; exact List.mem_append_right _ hq) (fun v M1 n1 c1 hv _ => by
    rw [hrs]
    intro hz
    rcases gx_thr_t hz with ⟨hb, -⟩ | ⟨-, hz⟩
    · exact absurd hb hv
    · exact hk v M1 n1 c1 hz) (fun M1 n1 c1 _ hz => by
    refine gj_out hh hY M1 n1 c1 ?_
    rcases gx_thr_t hz with ⟨-, hz⟩ | ⟨hb, -⟩
    · exact hz
    · exact absurd rfl hb) rfl
end CLS
end
section
/-! RULES: how a method begins and ends. -/
noncomputable def gx_rt (f : Nat → Bool) (v : Nat) (e : Bool) : Bool := Bool.rec (motive := fun _ => Bool) false e (f v)
section ENS
variable {G : gxG} {Y : gxY} {K : Nat → Nat → Nat → Nat → Bool} {pc : Nat} {L : List gxV} {M n c v : Nat}
theorem gf_T {G : gxG} {f : Nat → Bool} {ty : FieldType} {sv : Nat → gxV} (hf : gf_v G f ty sv) (h : f v = true) : v ≠ gx_T := by
  have := (hf (fun _ => 0) v h).1
  unfold gx_T
  omega
theorem gr_fin {G : gxG} {Y : gxY} {p : Program} {e : Env} {R : Room} {s : State} {m : MethodId} {args : Array Value} {below : List Frame} {meth : Method} {cd : Code} {H : Heap} {locs : List Loc} {cells slots : Nat} {Qc : Array Value → State → Outcome → State → Prop} {XC : String → State → State → Prop} {g : JFrame} {c0 n0 c n : Nat} (h1 : cells + c0 = c) (h2 : slots + n0 = n) (h3 : R.cells + c0 = c) (h4 : R.slots + n0 = n)
    (w : W p (gg_l G) e R s m args below meth cd H locs cells slots (MQ below Qc args s cells slots (gxA G)) g) : W p (gg_l G) e R s m args below meth cd H locs cells slots (gxQ (gy_x Y) below Qc XC args s R.cells R.slots (gxA G)) g := by
  obtain rfl : cells = R.cells := by omega
  obtain rfl : slots = R.slots := by omega
  unfold gxQ
  split
  · exact vx_ret w
  · exact w
theorem gr_ireturn {f : Nat → Bool} {ty : FieldType} {σ : Nat} (hdg : decode (gy_b Y) pc = .ok (.ireturn, 1)) (hr : gy_r Y = some ty) (hs : gy_s Y = σ) (hσ : σ < 4) (hf : gf_v G f ty gI) : gxJ G Y K pc [gI v] L M n c (gx_rt f v (K v M n c)) := fun h => by
  obtain ⟨hfv, hK⟩ := gb_t h
  refine ⟨v, M, n, c, hK, Nat.le_refl _, Nat.le_refl _, fun _ => gf_T hf hfv, fun p e R s m args below meth cd X c0 n0 cw0 ad0 hc hn cells slots cw ad H locs ls U => ?_⟩
  obtain ⟨u1, u2, uI, ua, ud, uS, uL, us, ul⟩ := U
  obtain ⟨x1, x2, x3, x4, x5, x6, x7, x8, x11, x12⟩ := X
  refine gr_fin u1 u2 hc hn (W.zret (v := gx_N (gg_dk G) v) x1 x2 (x4.trans hr) (hf ad v hfv).2.1 (fun t ht hW => ⟨gf_T hf hfv, ad, cw, ?_, ua, ud, by rw [ht]; exact uI, ?_, uS.F ht⟩) uS.2.2 hdg x7)
  · rw [hs]; unfold gx_ret gx_sl; rw [if_neg (by omega), if_pos hσ]; rfl
  · rw [hs]; unfold gx_sl; rw [if_pos hσ]; trivial
theorem gr_lreturn (hdg : decode (gy_b Y) pc = .ok (.lreturn, 1)) (hr : gy_r Y = some .long) (hs : gy_s Y = 4) : gxJ G Y K pc [gL v] L M n c (gx_rt gx_f0 v (K v M n c)) := fun h => by
  obtain ⟨hfv, hK⟩ := gb_t h
  refine ⟨v, M, n, c, hK, Nat.le_refl _, Nat.le_refl _, fun _ => gf_T (gv_4 (G := G)) hfv, fun p e R s m args below meth cd X c0 n0 cw0 ad0 hc hn cells slots cw ad H locs ls U => ?_⟩
  obtain ⟨u1, u2, uI, ua, ud, uS, uL, us, ul⟩ := U
  obtain ⟨x1, x2, x3, x4, x5, x6, x7, x8, x11, x12⟩ := X
  refine gr_fin u1 u2 hc hn (W.lret (v := lN v) x1 x2 (x4.trans hr) (fun t ht hW => ⟨gf_T (gv_4 (G := G)) hfv, ad, cw, ?_, ua, ud, by rw [ht]; exact uI, ?_, uS.F ht⟩) uS.2.2 hdg x7)
  · rw [hs]; rfl
  · rw [hs]; trivial
theorem gr_areturn {rt : FieldType} {t : Nat} (hdg : decode (gy_b Y) pc = .ok (.areturn, 1)) (hr : gy_r Y = some rt) (hs : gy_s Y = 8 + t) (hrt : (∃ n, rt = .object n) ∨ ∃ t, rt = .array t) : gxJ G Y K pc [gR t v] L M n c (gx_rt gx_f0 v (K v M n c)) := fun h => by
  obtain ⟨hfv, hK⟩ := gb_t h
  have hT : v ≠ gx_T := gf_T (gv_4 (G := G)) hfv
  refine ⟨v, M, n, c, hK, Nat.le_refl _, Nat.le_refl _, fun _ => hT, fun p e R s m args below meth cd X c0 n0 cw0 ad0 hc hn cells slots cw ad H locs ls U => ?_⟩
  obtain ⟨u1, u2, uI, ua, ud, uS, uL, us, ul⟩ := U
  obtain ⟨x1, x2, x3, x4, x5, x6, x7, x8, x11, x12⟩ := X
  have e1 : gx_sl (gy_s Y) v = gR t v := by rw [hs]; unfold gx_sl; rw [if_neg (by omega), if_neg (by omega), show 8 + t - 8 = t by omega]
  refine gr_fin u1 u2 hc hn (W.aret (v := gx_den (gg_dk G) ad (gR t v)) x1 x2 (x4.trans hr) hrt (gx_rf2 _ _ _ _) (fun t ht hW => ⟨hT, ad, cw, ?_, ua, ud, by rw [ht]; exact uI, ?_, uS.F ht⟩) uS.2.2 hdg x7)
  · unfold gx_ret; rw [if_neg (by omega), e1]
  · rw [e1]; exact gv_oks_hd us
theorem gr_return (hdg : decode (gy_b Y) pc = .ok (.return_, 1)) (hr : gy_r Y = none) (hs : gy_s Y = 5) : gxJ G Y K pc [] L M n c (K 0 M n c) := fun hK => by
  have hT : 0 ≠ gx_T := by unfold gx_T; omega
  refine ⟨0, M, n, c, hK, Nat.le_refl _, Nat.le_refl _, fun _ => hT, fun p e R s m args below meth cd X c0 n0 cw0 ad0 hc hn cells slots cw ad H locs ls U => ?_⟩
  obtain ⟨u1, u2, uI, ua, ud, uS, uL, us, ul⟩ := U
  obtain ⟨x1, x2, x3, x4, x5, x6, x7, x8, x11, x12⟩ := X
  refine gr_fin u1 u2 hc hn (W.vret x1 x2 (x4.trans hr) (fun t ht hW => ⟨hT, ad, cw, ?_, ua, ud, by rw [ht]; exact uI, ?_, uS.F ht⟩) uS.2.2 hdg x7)
  · rw [hs]; rfl
  · rw [hs]; exact Or.inl rfl
/-- what is given once for all -/
def gxG0 (G : gxG) : Prop := gxR G (gg_s G) ∧ gx_D (gg_dk G) ∧ gxZ G (gg_s G) ∧ va_K (gg_D G) gx_cl (gx_tys (gg_cT G)) (gg_s G) ∧ (gg_l G).flags = flags0
theorem gxR_at {s : State} (h : gxR G (gg_s G)) (hA : (gg_s G).vm.Alike s.vm) (hq : ∀ a : Nat, a < (gg_s G).heap.size → ¬ gg_lo G ≤ a → s.heap[a]? = (gg_s G).heap[a]?) : gxR G s := fun q hqm => by
  obtain ⟨r1, r2, r3, r4⟩ := h q hqm
  refine ⟨r1, r2, fun h64 => ?_, fun h64 h96 => ?_⟩
  · obtain ⟨r5, r6, r7⟩ := r3 h64
    exact ⟨r5, (va_O.moved hA r6).kept hq, fun j hj => ⟨(va_OF.moved hA (r7 j hj).1).kept hq, (r7 j hj).2⟩⟩
  · obtain ⟨r5, r6, r7, r8⟩ := r4 h64 h96
    exact ⟨r5, r6, r7, (va_T.moved hA r8).kept hq⟩
theorem va_Z_at {s : State} {C n d : String} {v : Value} {A : Nat → Prop} {u : State} (h : va_Z C n d v A u u.heap) (hA : u.vm.Alike s.vm) (hq : ∀ a : Nat, a < u.heap.size → ¬ A a → s.heap[a]? = u.heap[a]?) : va_Z C n d v A s s.heap := (va_Z.moved hA h).kept hq
theorem gxZ_at {s : State} (h : gxZ G (gg_s G)) (hW : (gg_s G).WarmedH s.vm) (hq : ∀ a : Nat, a < (gg_s G).heap.size → ¬ gg_lo G ≤ a → s.heap[a]? = (gg_s G).heap[a]?) : gxZ G s := by
  obtain ⟨z1, z2, z3, ⟨z4, z5, z6, z7⟩, ⟨z8, z9⟩, z10, ⟨sa, z11⟩, z12, z13⟩ := h
  have hA := hW.alike
  refine ⟨va_Z_at z1 hA hq, va_Z_at z2 hA hq, ?_, ⟨va_Z_at z4 hA hq, va_Z_at z5 hA hq, (va_T.moved hA z6).kept hq, (va_T.moved hA z7).kept hq⟩, ⟨(vx_Zq.moved hA z8).kept hq, (vx_Zq.moved hA z9).kept hq⟩, fun q hq => vk_R.warm hW (z10 q hq), ⟨sa, vk_R.warm hW z11⟩, z12, z13⟩
  rcases z3 with z3 | z3
  · exact Or.inl (va_Z_at z3 hA hq)
  · exact Or.inr (va_Z_at z3 hA hq)
/-- the locals at a method's beginning -/
def gx_ent : List gxV → List gxV
  | [] => []
  | v :: t => match gx_lg v with
    | true => v :: gB :: gx_ent t
    | false => v :: gx_ent t
theorem gx_ent_args {dk ad : Nat → Nat} : ∀ (vs : List gxV) (b : Nat) (i : Nat), (∀ v ∈ vs, gx_bl0 v = false) → ∀ q, q ∈ gx_ll dk ad i (gx_ent vs ++ List.replicate b gB) → q ∈ lv_args i (vs.map (gx_den dk ad)) := by
  intro vs
  induction vs with
  | nil =>
    intro b i _ q hq
    exfalso
    obtain ⟨j, x, h3, h4, -⟩ := (gx_ll_mem _ _ _).mp hq
    have := List.mem_of_getElem? h3
    have := List.eq_of_mem_replicate this
    rw [this] at h4
    exact nomatch h4
  | cons v t ih =>
    intro b i hb q hq
    have ht : ∀ w ∈ t, gx_bl0 w = false := fun w hw => hb w (List.mem_cons_of_mem _ hw)
    have hv := hb v List.mem_cons_self
    cases hl : gx_lg v with
    | true =>
      rcases v with x | x | x | x
      · exact nomatch hl
      · have hq : q ∈ (i, gx_den dk ad (gL x)) :: gx_ll dk ad (i + 1 + 1) (gx_ent t ++ List.replicate b gB) := hq
        rcases List.mem_cons.mp hq with e | e
        · exact List.mem_cons.mpr (Or.inl e)
        · exact List.mem_cons_of_mem _ (ih b (i + 2) ht q e)
      · exact nomatch hl
      · exact nomatch hl
    | false =>
      have e1 : gx_ent (v :: t) = v :: gx_ent t := by
        show (match gx_lg v with | true => _ | false => _) = _
        rw [hl]
      rw [e1] at hq
      have hc := gx_cat (dk := dk) (ad := ad) hl
      have hq : q ∈ (i, gx_den dk ad v) :: gx_ll dk ad (i + 1) (gx_ent t ++ List.replicate b gB) := by
        rcases v with x | x | x | x
        · exact hq
        · exact nomatch hl
        · exact hq
        · exact nomatch hv
      show q ∈ (i, gx_den dk ad v) :: lv_args (if (gx_den dk ad v).category = 2 then i + 2 else i + 1) (t.map (gx_den dk ad))
      rw [if_neg (by rw [hc]; decide)]
      rcases List.mem_cons.mp hq with e | e
      · exact List.mem_cons.mpr (Or.inl e)
      · exact List.mem_cons_of_mem _ (ih b (i + 1) ht q e)
theorem gx_ent_len {dk ad : Nat → Nat} : ∀ (vs : List gxV), (lg_sl (vs.map (gx_den dk ad))).length = (gx_ent vs).length := by
  intro vs
  induction vs with
  | nil => rfl
  | cons v t ih =>
    have e0 : lg_sl ((v :: t).map (gx_den dk ad)) = (if (gx_den dk ad v).category = 2 then [Slot.val (gx_den dk ad v), .second] else [Slot.val (gx_den dk ad v)]) ++ lg_sl (t.map (gx_den dk ad)) := rfl
    rw [e0, List.length_append, ih]
    cases hl : gx_lg v with
    | true =>
      rcases v with x | x | x | x
      · exact nomatch hl
      · show _ = (gL x :: gB :: gx_ent t).length
        rw [if_pos (show (gx_den dk ad (Sum.inr (Sum.inl x))).category = 2 from rfl)]
        simp
        omega
      · exact nomatch hl
      · exact nomatch hl
    | false =>
      have e1 : gx_ent (v :: t) = v :: gx_ent t := by
        show (match gx_lg v with | true => _ | false => _) = _
        rw [hl]
      rw [e1, if_neg (by rw [gx_cat hl]; decide)]
      simp
      omega
theorem gx_ent_ok {cs : List gxq} {vs : List gxV} (h : gv_oks cs vs) (b : Nat) : gv_oks cs (gx_ent vs ++ List.replicate b gB) := by
  intro w hw
  rcases List.mem_append.mp hw with hw | hw
  · induction vs with
    | nil => exact nomatch hw
    | cons v t ih =>
      have hw : w ∈ (match gx_lg v with | true => v :: gB :: gx_ent t | false => v :: gx_ent t) := hw
      cases hl : gx_lg v with
      | true =>
        rw [hl] at hw
        rcases List.mem_cons.mp hw with e | e
        · rw [e]; exact gv_oks_hd h
        · rcases List.mem_cons.mp e with e | e
          · rw [e]; trivial
          · exact ih (gv_oks_tl h) (List.mem_append_left _ e) e
      | false =>
        rw [hl] at hw
        rcases List.mem_cons.mp hw with e | e
        · rw [e]; exact gv_oks_hd h
        · exact ih (gv_oks_tl h) (List.mem_append_left _ e) e
  · rw [List.eq_of_mem_replicate hw]; trivial
theorem gx_ofW {l : Launch} {y : MethodName} {ws ws' : List Cond} {rm : Room} {Pc : Array Value → State → Prop} {Qc : Array Value → State → Outcome → State → Prop} {mc ms : Nat} {free : Addr → Prop} {cc : ByteArray} {maxL : Nat} {ret : Option FieldType}
    (hy : plainName y.cls = true) (hw : ws = Cond.code y cc maxL ret :: ws')
    (body : ∀ p e s m args below meth c s₁, BodyLoose p l y (headSpec ws rm) cc maxL ret e s m args below meth c s₁ → c.maxLocals = maxL → (∀ x ∈ c.exceptionTable.toList, False) → Pc args s →
      W p l e (headSpec ws rm).room s m args below meth c s.heap [] 0 0 (MQ below Qc args s mc ms free) (entryFrame m args maxL)) : Met l y ws rm Pc Qc mc ms free := by
  refine MetFree.of_bodyS (code := cc) (maxLocals := maxL) (ret := ret) hy ?_ ?_
  · intro args s m h hn
    obtain ⟨meth, c, h1, h2, h3, h4, h5, h6, -, -⟩ := Cond.code_spec hn (atoms_spec (ws := ws) h _ (by rw [hw]; exact List.mem_cons_self))
    exact ⟨meth, c, h1, h2, h3, h4, h5, h6⟩
  · intro p e s m args below meth c s₁ B hml hP _
    have hh0 : s₁.heap = s.heap := by rw [B.state]; rfl
    have ht : ∀ x ∈ c.exceptionTable.toList, False := by
      obtain ⟨meth9, c9, h1, h2, -, -, -, -, h7, -⟩ := Cond.code_spec B.named (atoms_spec (ws := ws) B.pre _ (by rw [hw]; exact List.mem_cons_self))
      cases Option.some.inj (h1.symm.trans B.method)
      cases Option.some.inj (h2.symm.trans (Stand.of_body B).code)
      intro x hx
      rw [Array.isEmpty_iff.mp h7] at hx
      cases hx
    obtain ⟨t, a1, o, b1, b2, b3⟩ := body p e s m args below meth c s₁ B hml ht hP s₁ hh0 (Stand.of_body B)
    exact ⟨t, o, a1, b1, b2, ⟨b3.1, b3.2⟩⟩
/-- a method's contract out of the judgement of its first place -/
theorem gxM_of {y : MethodName} {vs : List gxV} {f : Nat → Nat → Nat → (Nat → Nat → Nat → Nat → Bool) → Bool} (hG : gxG0 G) (b : Nat) (hpn : plainName y.cls = true) (ho : y.cls = gy_o Y) (hL : gx_ent vs ++ List.replicate b gB = L) (hlen : L.length = gy_l Y) (hbl : ∀ v ∈ vs, gx_bl0 v = false) (hJ : ∀ (M n c : Nat) (K : Nat → Nat → Nat → Nat → Bool), gxJ G Y K 0 [] L M n c (f M n c K)) : gxM G Y y vs f := by
  intro M n c K h
  obtain ⟨v, M', n', c', h1, h2, h3, h4, kk⟩ := hJ M n c K h
  refine ⟨v, M', n', c', h1, h2, h3, h4, fun cw ad => ?_⟩
  have body : ∀ p e s m args below meth cd s₁, BodyLoose p (gg_l G) y (headSpec (gy_w Y y :: gx_ws) { frames := gy_f Y, cells := c' - c, slots := n' - n, locals := gy_k Y }) (gy_b Y) (gy_l Y) (gy_r Y) e s m args below meth cd s₁ → cd.maxLocals = gy_l Y → cd.exceptionTable.toList = tableOf (gy_h Y) → gxPc G ad cw vs M n args s →
      W p (gg_l G) e (headSpec (gy_w Y y :: gx_ws) { frames := gy_f Y, cells := c' - c, slots := n' - n, locals := gy_k Y }).room s m args below meth cd s.heap [] 0 0 (gxQ (gy_x Y) below (gxQc G (gy_s Y) ad cw v M' n') (gxXC G ad cw v M' n') args s (c' - c) (n' - n) (gxA G)) (entryFrame m args (gy_l Y)) := by
    intro p e s m args below meth cd s₁ B hml htb hv
    obtain ⟨rfl, hW, hI, hok⟩ := hv
    obtain ⟨g1, g2, g3, g4, g5⟩ := hG
    have hts := atoms_spec (ws := gy_w Y y :: gx_ws) B.pre
    have hq : ∀ a : Nat, a < (gg_s G).heap.size → ¬ gg_lo G ≤ a → s.heap[a]? = (gg_s G).heap[a]? := fun a ha _ => hI.1.2 a ha
    have X : gxX G Y p (headSpec (gy_w Y y :: gx_ws) { frames := gy_f Y, cells := c' - c, slots := n' - n, locals := gy_k Y }).room s m (vs.map (gx_den (gg_dk G) ad)).toArray meth cd :=
      ⟨B.exec, B.bytes, hml, B.returns, by rw [← ho]; exact findClass_of_methodNamed B.named, fun w hw => hts w (List.mem_cons_of_mem _ hw), B.notSynchronized, ⟨hW, gxR_at g1 hW.alike hq, g2, gxZ_at g3 hW hq⟩, va_K.moved hW.alike g4, hI.1, Nat.le_refl _, Nat.le_refl _, g5, htb⟩
    have hlsl : (lg_sl (vs.map (gx_den (gg_dk G) ad))).length ≤ gy_l Y := by
      rw [gx_ent_len, ← hlen, ← hL, List.length_append]
      omega
    have hl := lv_entry (vs.map (gx_den (gg_dk G) ad)) (n := gy_l Y) hlsl
    rw [lg_entry_eq]
    generalize (lg_sl (vs.map (gx_den (gg_dk G) ad)) ++ List.replicate (gy_l Y - (lg_sl (vs.map (gx_den (gg_dk G) ad))).length) Slot.unset).toArray = ls at hl ⊢
    have hlc : gx_lc (gg_dk G) ad (gy_l Y) ls L := by
      subst hL
      exact ⟨hl.1, hl.2.1, fun q hq => hl.2.2 q (gx_ent_args vs b 0 hbl q hq)⟩
    have w := kk p e (headSpec (gy_w Y y :: gx_ws) { frames := gy_f Y, cells := c' - c, slots := n' - n, locals := gy_k Y }).room s m _ below meth cd X c n cw ad (by show c' - c + c = c'; omega) (by show n' - n + n = n'; omega) 0 0 cw ad s.heap [] ls ⟨by omega, by omega, hI, gx_agr_rf, gx_sb_rf, va_S.rf, hlc, gv_oks_nil, by subst hL; exact gx_ent_ok hok b⟩
    exact w
  have tb0 : ∀ {c9 : Code}, gy_h Y = [] → (∀ x ∈ c9.exceptionTable.toList, False) → c9.exceptionTable.toList = tableOf (gy_h Y) := by
    intro c9 hh hx
    rw [hh]
    cases hz : c9.exceptionTable.toList with
    | nil => rfl
    | cons x t => rw [hz] at hx; exact absurd List.mem_cons_self (hx x)
  unfold gxC
  cases hh : gy_h Y with
  | nil =>
    have hw : gy_w Y y :: gx_ws = Cond.code y (gy_b Y) (gy_l Y) (gy_r Y) :: gx_ws := by rw [gy_w0 hh]
    split
    · next hx =>
      refine vx_ofW (cc := gy_b Y) (maxL := gy_l Y) (ret := gy_r Y) hpn hw (fun p e s m args below meth cd s₁ B hml ht hv => ?_)
      have w := body p e s m args below meth cd s₁ B hml (tb0 hh ht) hv
      rw [show gy_x Y = true from hx] at w
      exact w
    · next hx =>
      refine gx_ofW (cc := gy_b Y) (maxL := gy_l Y) (ret := gy_r Y) hpn hw (fun p e s m args below meth cd s₁ B hml ht hv => ?_)
      have w := body p e s m args below meth cd s₁ B hml (tb0 hh ht) hv
      rw [show gy_x Y = false from hx] at w
      exact w
  | cons h0 t0 =>
    have hw : gy_w Y y :: gx_ws = Cond.codeWith y (gy_b Y) (gy_l Y) (gy_r Y) (h0 :: t0) :: gx_ws := by unfold gy_w; rw [hh]
    have tbW : ∀ {p : Program} {e : Env} {s s₁ : State} {m : MethodId} {args : Array Value} {below : List Frame} {meth : Method} {cd : Code}, BodyLoose p (gg_l G) y (headSpec (gy_w Y y :: gx_ws) { frames := gy_f Y, cells := c' - c, slots := n' - n, locals := gy_k Y }) (gy_b Y) (gy_l Y) (gy_r Y) e s m args below meth cd s₁ → cd.exceptionTable.toList = tableOf (gy_h Y) := fun B => by
      rw [hh]
      exact vx_table (x := y) B (atoms_spec (ws := gy_w Y y :: gx_ws) B.pre _ (by rw [hw]; exact List.mem_cons_self))
    split
    · next hx =>
      refine vx_ofWH (cc := gy_b Y) (maxL := gy_l Y) (ret := gy_r Y) (hh := h0 :: t0) hpn hw (fun p e s m args below meth cd s₁ B hml hv => ?_)
      have w := body p e s m args below meth cd s₁ B hml (tbW B) hv
      rw [show gy_x Y = true from hx] at w
      exact w
    · next hx =>
      refine va_MetW (cc := gy_b Y) (maxL := gy_l Y) (ret := gy_r Y) (hh := h0 :: t0) hpn hw (fun p e s m args below meth cd s₁ B hml hv => ?_)
      have w := body p e s m args below meth cd s₁ B hml (tbW B) hv
      rw [show gy_x Y = false from hx] at w
      exact w
end ENS
end
section
/-! RULES: statics, String constants, what the JDK itself does, throws, handlers. -/
section MOR
variable {G : gxG} {Y Y' : gxY} {K : Nat → Nat → Nat → Nat → Bool} {pc : Nat} {st L rest vs : List gxV} {M n c x v : Nat} {e : Bool}
/-- a cell that nobody writes is pushed -/
theorem gs_push {b t len : Nat} {cs : List gxq} (h : (b, (t, len)) ∈ cs) : gv_ok cs (gR t b) := Or.inr ⟨_, h, rfl, rfl⟩
theorem gr_nosigns {index : Nat} (hdg : decode (gy_b Y) pc = .ok (.getstatic index, 3)) (hlink : Cond.fieldLink (gy_o Y) index "Farfiles" "NO_SIGNS" "[C" ∈ gx_ws) (hk : gxJ G Y K (pc + 3) (gR 65 2 :: st) L M n c e) : gxJ G Y K pc st L M n c e :=
  gj_go2 hk fun p e R s m args below meth cd X cells slots cw ad H locs ls Q uI uS uL us ul kk => by
    obtain ⟨x1, x2, x3, x4, x5, x6, x7, ⟨x8, x9, x10, z1, z2, z3, z4, z5, z6, z7, z8, z9⟩, x11⟩ := X
    have hc : ((2, (65, 0)) : gxq) ∈ gg_cr G := by rw [z8]; decide
    have w := kk ls uL (gv_oks_cons (gs_push (List.mem_append_left _ hc)) us) ul
    rw [List.map_cons, gs_ref (by decide), uI.2.2.2.2.2.2.2.2.2 _ hc] at w
    exact va_gets x1 x2 z1 uS x5 (x6 _ hlink) (fun _ h => h) hdg w
theorem gr_nosignsN {index : Nat} {host : String} (hdg : decode (gy_b Y) pc = .ok (.getstatic index, 3)) (hlink : Cond.fieldLinkNest (gy_o Y) index "Farfiles" "NO_SIGNS" "[C" host ∈ gx_ws) (hk : gxJ G Y K (pc + 3) (gR 65 2 :: st) L M n c e) : gxJ G Y K pc st L M n c e :=
  gj_go2 hk fun p e R s m args below meth cd X cells slots cw ad H locs ls Q uI uS uL us ul kk => by
    obtain ⟨x1, x2, x3, x4, x5, x6, x7, ⟨x8, x9, x10, z1, z2, z3, z4, z5, z6, z7, z8, z9⟩, x11⟩ := X
    have hc : ((2, (65, 0)) : gxq) ∈ gg_cr G := by rw [z8]; decide
    have w := kk ls uL (gv_oks_cons (gs_push (List.mem_append_left _ hc)) us) ul
    rw [List.map_cons, gs_ref (by decide), uI.2.2.2.2.2.2.2.2.2 _ hc] at w
    exact va_getsN x1 x2 z1 uS x5 (x6 _ hlink) (fun _ h => h) hdg w
theorem gr_compact {index : Nat} (hdg : decode (gy_b Y) pc = .ok (.getstatic index, 3)) (hlink : Cond.fieldLink (gy_o Y) index "java/lang/String" "COMPACT_STRINGS" "Z" ∈ gx_ws) (hk : gxJ G Y K (pc + 3) (gI 1 :: st) L M n c e) : gxJ G Y K pc st L M n c e :=
  gj_go2 hk fun p e R s m args below meth cd X cells slots cw ad H locs ls Q uI uS uL us ul kk => by
    obtain ⟨x1, x2, x3, x4, x5, x6, x7, ⟨x8, x9, x10, z1, z2, z3, z4, z5, z6, z7, z8, z9⟩, x11⟩ := X
    have w := kk ls uL (gv_oks_cons trivial us) ul
    rw [List.map_cons, show gx_den (gg_dk G) ad (gI 1) = .int 1 from congrArg Value.int (gn_c (by decide))] at w
    exact va_gets x1 x2 z2 uS x5 (x6 _ hlink) (fun _ h => h) hdg w
theorem gr_digits {index : Nat} (hdg : decode (gy_b Y) pc = .ok (.getstatic index, 3)) (hlink : Cond.fieldLink (gy_o Y) index "java/lang/Integer" "DigitOnes" "[B" ∈ gx_ws) (hk : gxJ G Y K (pc + 3) (gR 97 3 :: st) L M n c e) : gxJ G Y K pc st L M n c e :=
  gj_go2 hk fun p e R s m args below meth cd X cells slots cw ad H locs ls Q uI uS uL us ul kk => by
    obtain ⟨x1, x2, x3, x4, x5, x6, x7, ⟨x8, x9, x10, z1, z2, z3, z4, z5, z6, z7, z8, z9⟩, x11⟩ := X
    have hc : ((3, (97, 0)) : gxq) ∈ gg_cr G := by rw [z8]; decide
    have w := kk ls uL (gv_oks_cons (gs_push (List.mem_append_left _ hc)) us) ul
    rw [List.map_cons, gs_ref (by decide), uI.2.2.2.2.2.2.2.2.2 _ hc] at w
    exact va_gets x1 x2 z4.1 uS x5 (x6 _ hlink) (fun _ h => h) hdg w
theorem gr_tens {index : Nat} (hdg : decode (gy_b Y) pc = .ok (.getstatic index, 3)) (hlink : Cond.fieldLink (gy_o Y) index "java/lang/Integer" "DigitTens" "[B" ∈ gx_ws) (hk : gxJ G Y K (pc + 3) (gR 96 4 :: st) L M n c e) : gxJ G Y K pc st L M n c e :=
  gj_go2 hk fun p e R s m args below meth cd X cells slots cw ad H locs ls Q uI uS uL us ul kk => by
    obtain ⟨x1, x2, x3, x4, x5, x6, x7, ⟨x8, x9, x10, z1, z2, z3, z4, z5, z6, z7, z8, z9⟩, x11⟩ := X
    have hc : ((4, (96, 0)) : gxq) ∈ gg_cr G := by rw [z8]; decide
    have w := kk ls uL (gv_oks_cons (gs_push (List.mem_append_left _ hc)) us) ul
    rw [List.map_cons, gs_ref (by decide), uI.2.2.2.2.2.2.2.2.2 _ hc] at w
    exact va_gets x1 x2 z4.2.1 uS x5 (x6 _ hlink) (fun _ h => h) hdg w
theorem gr_formatter {index : Nat} (hG : gxG0 G) (hdg : decode (gy_b Y) pc = .ok (.getstatic index, 3)) (hlink : Cond.fieldLink (gy_o Y) index "jdk/internal/util/Preconditions" "SIOOBE_FORMATTER" "Ljava/util/function/BiFunction;" ∈ gx_ws) (h0 : gxJ G Y K (pc + 3) (gR 98 0 :: st) L M n c e) (h5 : gxJ G Y K (pc + 3) (gR 98 5 :: st) L M n c e) : gxJ G Y K pc st L M n c e := by
  obtain ⟨g1, g2, ⟨-, -, g3, -⟩, g4, g5⟩ := hG
  rcases g3 with g3 | g3
  · exact gj_go2 h0 fun p e R s m args below meth cd X cells slots cw ad H locs ls Q uI uS uL us ul kk => by
      obtain ⟨x1, x2, x3, x4, x5, x6, x7, ⟨x8, x9, x10, x100⟩, x11, ⟨x12, x13⟩, x14⟩ := X
      have w := kk ls uL (gv_oks_cons (Or.inl rfl) us) ul
      rw [List.map_cons, (show gx_den (gg_dk G) ad (gR 98 0) = Value.null by show gx_rf ad 0 = Value.null; exact if_pos rfl)] at w
      exact va_gets x1 x2 (va_Z_at g3 x8.alike (fun a ha _ => x13 a ha)) uS x5 (x6 _ hlink) (fun _ h => h) hdg w
  · exact gj_go2 h5 fun p e R s m args below meth cd X cells slots cw ad H locs ls Q uI uS uL us ul kk => by
      obtain ⟨x1, x2, x3, x4, x5, x6, x7, ⟨x8, x9, x10, z1, z2, z3, z4, z5, z6, z7, z8, z9⟩, x11, ⟨x12, x13⟩, x14⟩ := X
      have hc : ((5, (98, 0)) : gxq) ∈ gg_cr G := by rw [z8]; decide
      have w := kk ls uL (gv_oks_cons (gs_push (List.mem_append_left _ hc)) us) ul
      rw [List.map_cons, gs_ref (by decide), uI.2.2.2.2.2.2.2.2.2 _ hc] at w
      exact va_gets x1 x2 (va_Z_at g3 x8.alike (fun a ha _ => x13 a ha)) uS x5 (x6 _ hlink) (fun _ h => h) hdg w
/-- a String constant of the law -/
theorem gr_ldcS {index b : Nat} {tx : String} (ho : gy_o Y = "FarfilesLaw") (hdg : decode (gy_b Y) pc = .ok (.ldc index, 2)) (hm : (index, (tx, b)) ∈ gx_str) (hb : (b, (8, 2)) ∈ gx_cr) (hb0 : b ≠ 0) (hk : gxJ G Y K (pc + 2) (gR 8 b :: st) L M n c e) : gxJ G Y K pc st L M n c e :=
  gj_go2 hk fun p e R s m args below meth cd X cells slots cw ad H locs ls Q uI uS uL us ul kk => by
    obtain ⟨x1, x2, x3, x4, x5, x6, x7, ⟨x8, x9, x10, z1, z2, z3, z4, z5, z6, z7, z8, z9⟩, x11⟩ := X
    have hc : ((b, (8, 2)) : gxq) ∈ gg_cr G := by rw [z8]; exact hb
    have w := kk ls uL (gv_oks_cons (gs_push (List.mem_append_left _ hc)) us) ul
    rw [List.map_cons, gs_ref hb0, uI.2.2.2.2.2.2.2.2.2 _ hc] at w
    rw [ho] at x5
    exact va_ldcS x1 x2 x5 (z6 _ hm) hdg w
/-- a digit out of the JDK's tables -/
noncomputable def gx_dgo (i : Nat) (k : Nat → Bool) : Bool := Bool.rec (motive := fun _ => Bool) (Bool.rec (motive := fun _ => Bool) false (k (Nat.add i 34359738416)) (Bool.and (Nat.beq (Nat.mod i 4294967296) 0) (Nat.beq (Nat.mod (Nat.div i 4294967296) 32) 8))) (k (Nat.add i 48)) (Bool.and (Nat.beq (Nat.mod i 4294967296) 0) (Nat.beq (Nat.mod (Nat.div i 4294967296) 32) 4))
noncomputable def gx_dgt (i : Nat) (k : Nat → Bool) : Bool := Bool.rec (motive := fun _ => Bool) false (k (Nat.add i 17179869232)) (Bool.and (Nat.beq (Nat.mod i 4294967296) 0) (Nat.beq (Nat.mod (Nat.div i 4294967296) 32) 8))
theorem gd_hi1 : ∀ k : Nat, k % 8 = 1 → gx_hi k = 9 := fun k hk => by
  show (38812191001 >>> (8 * (k % 8))) &&& 255 = 9
  rw [hk]; rfl
theorem gd_hi2 : ∀ k : Nat, k % 8 = 2 → gx_hi k = 99 := fun k hk => by
  show (38812191001 >>> (8 * (k % 8))) &&& 255 = 99
  rw [hk]; rfl
theorem gd_one {dk : Nat → Nat} {i : Nat} (h0 : i % 4294967296 = 0) (h1 : i / 4294967296 % 4 = 0) (h2 : ¬ i < 4294967296) : gx_N dk i = nI (dk (i / 4294967296 / 4)) := by
  rw [gn_int h2, h0, h1, show gx_sc 0 = 1 from rfl]
  rw [show ((0 : Nat) : Int) + 1 * (dk (i / 4294967296 / 4) : Int) = (dk (i / 4294967296 / 4) : Int) by omega, gn_of]
theorem go_dgo {dk : Nat → Nat} (hd : gx_D dk) {i : Nat} {k : Nat → Bool} (h : gx_dgo i k = true) : ∃ z d, k z = true ∧ gx_N dk i = nI d ∧ d < 100 ∧ gx_N dk z = nI (48 + d % 10) := by
  rcases gb_true h with ⟨hc, h⟩ | ⟨hc, h⟩
  · obtain ⟨c1, c2⟩ := go_and hc
    have c1 : i % 4294967296 = 0 := gb_beq c1
    have c2 : i / 4294967296 % 32 = 4 := gb_beq c2
    obtain ⟨d1, d2⟩ := hd.1 (i / 4294967296 / 4) (by omega)
    rw [gd_hi1 _ (by omega)] at d2
    refine ⟨_, dk (i / 4294967296 / 4), h, gd_one c1 (by omega) (by omega), by omega, ?_⟩
    show gx_N dk (i + 48) = _
    rw [gn_int (show ¬ i + 48 < 4294967296 by omega), show (i + 48) % 4294967296 = 48 by omega, show (i + 48) / 4294967296 = i / 4294967296 by omega, show i / 4294967296 % 4 = 0 by omega, show gx_sc 0 = 1 from rfl, Nat.mod_eq_of_lt (by omega : dk (i / 4294967296 / 4) < 10)]
    rw [← gn_of]
    congr 1
    omega
  · obtain ⟨hc, h⟩ := gb_t h
    obtain ⟨c1, c2⟩ := go_and hc
    have c1 : i % 4294967296 = 0 := gb_beq c1
    have c2 : i / 4294967296 % 32 = 8 := gb_beq c2
    obtain ⟨d1, d2⟩ := hd.1 (i / 4294967296 / 4) (by omega)
    obtain ⟨d3, d4⟩ := hd.2 (i / 4294967296 / 4) (by omega)
    rw [gd_hi2 _ (by omega)] at d2
    refine ⟨_, dk (i / 4294967296 / 4), h, gd_one c1 (by omega) (by omega), by omega, ?_⟩
    show gx_N dk (i + 34359738416) = _
    rw [gn_int (show ¬ i + 34359738416 < 4294967296 by omega), show (i + 34359738416) % 4294967296 = 48 by omega, show (i + 34359738416) / 4294967296 % 4 = 0 by omega, show (i + 34359738416) / 4294967296 / 4 = i / 4294967296 / 4 + 2 by omega, d4, show gx_sc 0 = 1 from rfl]
    rw [← gn_of]
    congr 1
    omega
theorem go_dgt {dk : Nat → Nat} (hd : gx_D dk) {i : Nat} {k : Nat → Bool} (h : gx_dgt i k = true) : ∃ z d, k z = true ∧ gx_N dk i = nI d ∧ d < 100 ∧ gx_N dk z = nI (48 + d / 10) := by
  obtain ⟨hc, h⟩ := gb_t h
  obtain ⟨c1, c2⟩ := go_and hc
  have c1 : i % 4294967296 = 0 := gb_beq c1
  have c2 : i / 4294967296 % 32 = 8 := gb_beq c2
  obtain ⟨d1, d2⟩ := hd.1 (i / 4294967296 / 4) (by omega)
  obtain ⟨d3, d4⟩ := hd.2 (i / 4294967296 / 4) (by omega)
  rw [gd_hi2 _ (by omega)] at d2
  refine ⟨_, dk (i / 4294967296 / 4), h, gd_one c1 (by omega) (by omega), by omega, ?_⟩
  show gx_N dk (i + 17179869232) = _
  rw [gn_int (show ¬ i + 17179869232 < 4294967296 by omega), show (i + 17179869232) % 4294967296 = 48 by omega, show (i + 17179869232) / 4294967296 % 4 = 0 by omega, show (i + 17179869232) / 4294967296 / 4 = i / 4294967296 / 4 + 1 by omega, d3, show gx_sc 0 = 1 from rfl]
  rw [← gn_of]
  congr 1
  omega
theorem gr_dgo {i : Nat} {k : Nat → Bool} (hd : gx_D (gg_dk G)) (hdg : decode (gy_b Y) pc = .ok (.baload, 1)) (hk : ∀ z, gxJ G Y K (pc + 1) (gI z :: st) L M n c (k z)) : gxJ G Y K pc (gI i :: gR 97 3 :: st) L M n c (gx_dgo i k) := fun h => by
  obtain ⟨z, d, hz, h1, h2, h3⟩ := go_dgo hd h
  refine gj_go2 (hk z) (fun p e R s m args below meth cd X cells slots cw ad H locs ls Q uI uS uL us ul kk => ?_) hz
  obtain ⟨x1, x2, x3, x4, x5, x6, x7, ⟨x8, x9, x10, z1, z2, z3, z4, z5, z6, z7, z8, z9⟩, x11⟩ := X
  have hc : ((3, (97, 0)) : gxq) ∈ gg_cr G := by rw [z8]; decide
  have w := kk ls uL (gv_oks_cons trivial (gv_2 us)) ul
  rw [List.map_cons, show gx_den (gg_dk G) ad (gI z) = .int (nI (48 + d % 10)) from congrArg Value.int h3] at w
  rw [List.map_cons, List.map_cons, gs_ref (by decide), uI.2.2.2.2.2.2.2.2.2 _ hc, show gx_den (gg_dk G) ad (gI i) = .int (nI d) from congrArg Value.int h1]
  exact va_tb x1 x2 z4.2.2.1 uS (nI_in h2 (by decide)) (by rw [nI_clamp (by omega)]) hdg w
theorem gr_dgt {i : Nat} {k : Nat → Bool} (hd : gx_D (gg_dk G)) (hdg : decode (gy_b Y) pc = .ok (.baload, 1)) (hk : ∀ z, gxJ G Y K (pc + 1) (gI z :: st) L M n c (k z)) : gxJ G Y K pc (gI i :: gR 96 4 :: st) L M n c (gx_dgt i k) := fun h => by
  obtain ⟨z, d, hz, h1, h2, h3⟩ := go_dgt hd h
  refine gj_go2 (hk z) (fun p e R s m args below meth cd X cells slots cw ad H locs ls Q uI uS uL us ul kk => ?_) hz
  obtain ⟨x1, x2, x3, x4, x5, x6, x7, ⟨x8, x9, x10, z1, z2, z3, z4, z5, z6, z7, z8, z9⟩, x11⟩ := X
  have hc : ((4, (96, 0)) : gxq) ∈ gg_cr G := by rw [z8]; decide
  have w := kk ls uL (gv_oks_cons trivial (gv_2 us)) ul
  rw [List.map_cons, show gx_den (gg_dk G) ad (gI z) = .int (nI (48 + d / 10)) from congrArg Value.int h3] at w
  rw [List.map_cons, List.map_cons, gs_ref (by decide), uI.2.2.2.2.2.2.2.2.2 _ hc, show gx_den (gg_dk G) ad (gI i) = .int (nI d) from congrArg Value.int h1]
  exact va_tb x1 x2 z4.2.2.2 uS (nI_in h2 (by decide)) (by rw [nI_clamp (by omega)]) hdg w
/-- Object.<init> -/
theorem gr_objInit {index t : Nat} (hdg : decode (gy_b Y) pc = .ok (.invokespecial index, 3)) (hl : Cond.methodLink (gy_o Y) index Lib.objectInit ∈ gx_ws) (hi : Cond.instanceMethod Lib.objectInit ∈ gx_ws) (hc : Cond.code Lib.objectInit ⟨#[0xb1]⟩ 1 none ∈ gx_ws) (hf : 1 ≤ gy_f Y) (hk9 : 20 ≤ gy_k Y) (hcat : gx_cats st ≤ 8) (hk : gxJ G Y K (pc + 3) st L M n c e) : gxJ G Y K pc (gR t x :: st) L M n c (gx_nn x e) := gj_nn (fun hx =>
  gj_go2 hk fun p e R s m args below meth cd X cells slots cw ad H locs ls Q uI uS uL us ul kk => by
    obtain ⟨x1, x2, x3, x4, x5, x6, x7, ⟨x8, x9, x10⟩, x11, x12, x13, x14, x15⟩ := X
    have w := kk ls uL (gv_oks_tl us) ul
    rw [List.map_cons, gs_ref hx]
    refine W.objInit x1 x2 x5 (x6 _ hl) (x6 _ hi) (x6 _ hc) rfl (by rw [x3]; exact uL.1) rfl hdg (Nat.le_trans hf x13) ?_ w
    have h1 : ((st.map (gx_den (gg_dk G) ad)).map fun v => v.category).sum ≤ 8 := Nat.le_trans (gx_cats_sum st) hcat
    have h2 : (F0 m pc ls (Value.ref (ad x) :: st.map (gx_den (gg_dk G) ad))).monitorRoom = 0 := rfl
    rw [h2]
    omega)
end MOR
end
section
theorem i_vc : Claimed_1_1 ∧ Claimed_1_2 := sorry
end
