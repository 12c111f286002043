section
-- ===== PART A: goes FIRST, ahead of the names: the tables' words, and 'selects' of the private methods out of them =====
/-- a private method of a class that the tables say can be made, by its rows of tables_1 -/
def lw_okq (q : MethodName × Nat) : Prop := (q.1.cls ≠ "java/lang/invoke/MethodHandle" ∧ q.1.cls ≠ "java/lang/invoke/VarHandle") ∧ Cond.instantiable q.1.cls q.2 ∈ tables_1 ∧ Cond.privateMethod q.1 ∈ tables_1 ∧ Cond.instanceMethod q.1 ∈ tables_1
theorem lw_p0 : lw_okq (⟨"FarfilesLaw", "holdsAll", "([I)Z"⟩, 5) := ⟨⟨by decide +kernel, by decide +kernel⟩, List.mem_of_getElem? (i := 31) (by decide +kernel), List.mem_of_getElem? (i := 310) (by decide +kernel), List.mem_of_getElem? (i := 311) (by decide +kernel)⟩
theorem lw_p1 : lw_okq (⟨"FarfilesLaw", "draw", "(I)I"⟩, 5) := ⟨⟨by decide +kernel, by decide +kernel⟩, List.mem_of_getElem? (i := 31) (by decide +kernel), List.mem_of_getElem? (i := 314) (by decide +kernel), List.mem_of_getElem? (i := 315) (by decide +kernel)⟩
theorem lw_p2 : lw_okq (⟨"FarfilesLaw", "areStored", "()Z"⟩, 5) := ⟨⟨by decide +kernel, by decide +kernel⟩, List.mem_of_getElem? (i := 31) (by decide +kernel), List.mem_of_getElem? (i := 333) (by decide +kernel), List.mem_of_getElem? (i := 334) (by decide +kernel)⟩
theorem lw_p3 : lw_okq (⟨"FarfilesLaw", "name", "()Ljava/lang/String;"⟩, 5) := ⟨⟨by decide +kernel, by decide +kernel⟩, List.mem_of_getElem? (i := 31) (by decide +kernel), List.mem_of_getElem? (i := 337) (by decide +kernel), List.mem_of_getElem? (i := 338) (by decide +kernel)⟩
theorem lw_p4 : lw_okq (⟨"FarfilesLaw", "word", "()Ljava/lang/String;"⟩, 5) := ⟨⟨by decide +kernel, by decide +kernel⟩, List.mem_of_getElem? (i := 31) (by decide +kernel), List.mem_of_getElem? (i := 576) (by decide +kernel), List.mem_of_getElem? (i := 577) (by decide +kernel)⟩
theorem lw_p5 : lw_okq (⟨"FarfilesLaw", "links", "(IZ)V"⟩, 5) := ⟨⟨by decide +kernel, by decide +kernel⟩, List.mem_of_getElem? (i := 31) (by decide +kernel), List.mem_of_getElem? (i := 605) (by decide +kernel), List.mem_of_getElem? (i := 606) (by decide +kernel)⟩
theorem lw_p6 : lw_okq (⟨"Farfiles", "clientOf", "(I)LFarfiles$Client;"⟩, 16) := ⟨⟨by decide +kernel, by decide +kernel⟩, List.mem_of_getElem? (i := 39) (by decide +kernel), List.mem_of_getElem? (i := 613) (by decide +kernel), List.mem_of_getElem? (i := 614) (by decide +kernel)⟩
theorem lw_p7 : lw_okq (⟨"java/lang/Throwable", "fillInStackTrace", "(I)Ljava/lang/Throwable;"⟩, 6) := ⟨⟨by decide +kernel, by decide +kernel⟩, List.mem_of_getElem? (i := 657) (by decide +kernel), List.mem_of_getElem? (i := 655) (by decide +kernel), List.mem_of_getElem? (i := 656) (by decide +kernel)⟩
theorem lw_p8 : lw_okq (⟨"FarfilesLaw", "types", "(Ljava/lang/String;)V"⟩, 5) := ⟨⟨by decide +kernel, by decide +kernel⟩, List.mem_of_getElem? (i := 31) (by decide +kernel), List.mem_of_getElem? (i := 687) (by decide +kernel), List.mem_of_getElem? (i := 688) (by decide +kernel)⟩
theorem lw_p9 : lw_okq (⟨"Farfiles", "callerOf", "(I)LFarfiles$Client;"⟩, 16) := ⟨⟨by decide +kernel, by decide +kernel⟩, List.mem_of_getElem? (i := 39) (by decide +kernel), List.mem_of_getElem? (i := 762) (by decide +kernel), List.mem_of_getElem? (i := 763) (by decide +kernel)⟩
theorem lw_p10 : lw_okq (⟨"Farfiles", "takePathOfLetters", "()I"⟩, 16) := ⟨⟨by decide +kernel, by decide +kernel⟩, List.mem_of_getElem? (i := 39) (by decide +kernel), List.mem_of_getElem? (i := 770) (by decide +kernel), List.mem_of_getElem? (i := 771) (by decide +kernel)⟩
theorem lw_p11 : lw_okq (⟨"Farfiles", "takePath", "()I"⟩, 16) := ⟨⟨by decide +kernel, by decide +kernel⟩, List.mem_of_getElem? (i := 39) (by decide +kernel), List.mem_of_getElem? (i := 774) (by decide +kernel), List.mem_of_getElem? (i := 775) (by decide +kernel)⟩
theorem lw_p12 : lw_okq (⟨"Farfiles", "goToDirectory", "(LFarfiles$Client;LFarfiles$Path;)I"⟩, 16) := ⟨⟨by decide +kernel, by decide +kernel⟩, List.mem_of_getElem? (i := 39) (by decide +kernel), List.mem_of_getElem? (i := 818) (by decide +kernel), List.mem_of_getElem? (i := 819) (by decide +kernel)⟩
theorem lw_p13 : lw_okq (⟨"Farfiles", "refuse", "(C)V"⟩, 16) := ⟨⟨by decide +kernel, by decide +kernel⟩, List.mem_of_getElem? (i := 39) (by decide +kernel), List.mem_of_getElem? (i := 822) (by decide +kernel), List.mem_of_getElem? (i := 823) (by decide +kernel)⟩
theorem lw_p14 : lw_okq (⟨"Farfiles", "go", "(LFarfiles$Client;LFarfiles$Path;I)I"⟩, 16) := ⟨⟨by decide +kernel, by decide +kernel⟩, List.mem_of_getElem? (i := 39) (by decide +kernel), List.mem_of_getElem? (i := 842) (by decide +kernel), List.mem_of_getElem? (i := 843) (by decide +kernel)⟩
theorem lw_p15 : lw_okq (⟨"Farfiles", "lookAt", "(LFarfiles$Client;I)V"⟩, 16) := ⟨⟨by decide +kernel, by decide +kernel⟩, List.mem_of_getElem? (i := 39) (by decide +kernel), List.mem_of_getElem? (i := 846) (by decide +kernel), List.mem_of_getElem? (i := 847) (by decide +kernel)⟩
def lw_privs_1 : List (MethodName × Nat) := [(⟨"FarfilesLaw", "holdsAll", "([I)Z"⟩, 5), (⟨"FarfilesLaw", "draw", "(I)I"⟩, 5), (⟨"FarfilesLaw", "areStored", "()Z"⟩, 5), (⟨"FarfilesLaw", "name", "()Ljava/lang/String;"⟩, 5), (⟨"FarfilesLaw", "word", "()Ljava/lang/String;"⟩, 5), (⟨"FarfilesLaw", "links", "(IZ)V"⟩, 5), (⟨"Farfiles", "clientOf", "(I)LFarfiles$Client;"⟩, 16), (⟨"java/lang/Throwable", "fillInStackTrace", "(I)Ljava/lang/Throwable;"⟩, 6), (⟨"FarfilesLaw", "types", "(Ljava/lang/String;)V"⟩, 5), (⟨"Farfiles", "callerOf", "(I)LFarfiles$Client;"⟩, 16), (⟨"Farfiles", "takePathOfLetters", "()I"⟩, 16), (⟨"Farfiles", "takePath", "()I"⟩, 16), (⟨"Farfiles", "goToDirectory", "(LFarfiles$Client;LFarfiles$Path;)I"⟩, 16), (⟨"Farfiles", "refuse", "(C)V"⟩, 16), (⟨"Farfiles", "go", "(LFarfiles$Client;LFarfiles$Path;I)I"⟩, 16), (⟨"Farfiles", "lookAt", "(LFarfiles$Client;I)V"⟩, 16)]
theorem lw_r1 : ∀ q ∈ lw_privs_1, lw_okq q := List.forall_mem_cons.mpr ⟨lw_p0, List.forall_mem_cons.mpr ⟨lw_p1, List.forall_mem_cons.mpr ⟨lw_p2, List.forall_mem_cons.mpr ⟨lw_p3, List.forall_mem_cons.mpr ⟨lw_p4, List.forall_mem_cons.mpr ⟨lw_p5, List.forall_mem_cons.mpr ⟨lw_p6, List.forall_mem_cons.mpr ⟨lw_p7, List.forall_mem_cons.mpr ⟨lw_p8, List.forall_mem_cons.mpr ⟨lw_p9, List.forall_mem_cons.mpr ⟨lw_p10, List.forall_mem_cons.mpr ⟨lw_p11, List.forall_mem_cons.mpr ⟨lw_p12, List.forall_mem_cons.mpr ⟨lw_p13, List.forall_mem_cons.mpr ⟨lw_p14, List.forall_mem_cons.mpr ⟨lw_p15, fun _ h => absurd h List.not_mem_nil⟩⟩⟩⟩⟩⟩⟩⟩⟩⟩⟩⟩⟩⟩⟩⟩
theorem lw_p16 : lw_okq (⟨"Farfiles$Client", "goesAhead", "(II)Z"⟩, 12) := ⟨⟨by decide +kernel, by decide +kernel⟩, List.mem_of_getElem? (i := 195) (by decide +kernel), List.mem_of_getElem? (i := 881) (by decide +kernel), List.mem_of_getElem? (i := 882) (by decide +kernel)⟩
theorem lw_p17 : lw_okq (⟨"Farfiles", "nextOf", "(LFarfiles$Client;II)I"⟩, 16) := ⟨⟨by decide +kernel, by decide +kernel⟩, List.mem_of_getElem? (i := 39) (by decide +kernel), List.mem_of_getElem? (i := 919) (by decide +kernel), List.mem_of_getElem? (i := 920) (by decide +kernel)⟩
theorem lw_p18 : lw_okq (⟨"Farfiles", "hasDirectory", "(I)Z"⟩, 16) := ⟨⟨by decide +kernel, by decide +kernel⟩, List.mem_of_getElem? (i := 39) (by decide +kernel), List.mem_of_getElem? (i := 923) (by decide +kernel), List.mem_of_getElem? (i := 924) (by decide +kernel)⟩
theorem lw_p19 : lw_okq (⟨"Farfiles$Log", "gather", "(LFarfiles$ActSet;I)V"⟩, 5) := ⟨⟨by decide +kernel, by decide +kernel⟩, List.mem_of_getElem? (i := 60) (by decide +kernel), List.mem_of_getElem? (i := 932) (by decide +kernel), List.mem_of_getElem? (i := 933) (by decide +kernel)⟩
theorem lw_p20 : lw_okq (⟨"Farfiles$Log", "toldName", "(LFarfiles$Act;)I"⟩, 5) := ⟨⟨by decide +kernel, by decide +kernel⟩, List.mem_of_getElem? (i := 60) (by decide +kernel), List.mem_of_getElem? (i := 951) (by decide +kernel), List.mem_of_getElem? (i := 952) (by decide +kernel)⟩
theorem lw_p21 : lw_okq (⟨"Farfiles", "makeIn", "(LFarfiles$Client;IZ)I"⟩, 16) := ⟨⟨by decide +kernel, by decide +kernel⟩, List.mem_of_getElem? (i := 39) (by decide +kernel), List.mem_of_getElem? (i := 956) (by decide +kernel), List.mem_of_getElem? (i := 957) (by decide +kernel)⟩
theorem lw_p22 : lw_okq (⟨"Farfiles", "refuseIfThere", "(LFarfiles$Client;II)V"⟩, 16) := ⟨⟨by decide +kernel, by decide +kernel⟩, List.mem_of_getElem? (i := 39) (by decide +kernel), List.mem_of_getElem? (i := 965) (by decide +kernel), List.mem_of_getElem? (i := 966) (by decide +kernel)⟩
theorem lw_p23 : lw_okq (⟨"Farfiles", "refuseIfTooFew", "(I)V"⟩, 16) := ⟨⟨by decide +kernel, by decide +kernel⟩, List.mem_of_getElem? (i := 39) (by decide +kernel), List.mem_of_getElem? (i := 969) (by decide +kernel), List.mem_of_getElem? (i := 970) (by decide +kernel)⟩
theorem lw_p24 : lw_okq (⟨"Farfiles", "addEntry", "(LFarfiles$Client;III)V"⟩, 16) := ⟨⟨by decide +kernel, by decide +kernel⟩, List.mem_of_getElem? (i := 39) (by decide +kernel), List.mem_of_getElem? (i := 977) (by decide +kernel), List.mem_of_getElem? (i := 978) (by decide +kernel)⟩
theorem lw_p25 : lw_okq (⟨"Farfiles", "enter", "(LFarfiles$Client;LFarfiles$Act;)I"⟩, 16) := ⟨⟨by decide +kernel, by decide +kernel⟩, List.mem_of_getElem? (i := 39) (by decide +kernel), List.mem_of_getElem? (i := 984) (by decide +kernel), List.mem_of_getElem? (i := 985) (by decide +kernel)⟩
theorem lw_p26 : lw_okq (⟨"Farfiles$Log", "takeAddsLike", "(LFarfiles$Act;LFarfiles$Act;)V"⟩, 5) := ⟨⟨by decide +kernel, by decide +kernel⟩, List.mem_of_getElem? (i := 60) (by decide +kernel), List.mem_of_getElem? (i := 995) (by decide +kernel), List.mem_of_getElem? (i := 996) (by decide +kernel)⟩
theorem lw_p27 : lw_okq (⟨"Farfiles", "bringSome", "(LFarfiles$Client;I)I"⟩, 16) := ⟨⟨by decide +kernel, by decide +kernel⟩, List.mem_of_getElem? (i := 39) (by decide +kernel), List.mem_of_getElem? (i := 1007) (by decide +kernel), List.mem_of_getElem? (i := 1008) (by decide +kernel)⟩
theorem lw_p28 : lw_okq (⟨"Farfiles", "actOf", "(I)LFarfiles$Act;"⟩, 16) := ⟨⟨by decide +kernel, by decide +kernel⟩, List.mem_of_getElem? (i := 39) (by decide +kernel), List.mem_of_getElem? (i := 1020) (by decide +kernel), List.mem_of_getElem? (i := 1021) (by decide +kernel)⟩
theorem lw_p29 : lw_okq (⟨"Farfiles", "goOn", "(LFarfiles$Client;LFarfiles$Path;I)I"⟩, 16) := ⟨⟨by decide +kernel, by decide +kernel⟩, List.mem_of_getElem? (i := 39) (by decide +kernel), List.mem_of_getElem? (i := 1054) (by decide +kernel), List.mem_of_getElem? (i := 1055) (by decide +kernel)⟩
theorem lw_p30 : lw_okq (⟨"FarfilesLaw", "brings", "(I)V"⟩, 5) := ⟨⟨by decide +kernel, by decide +kernel⟩, List.mem_of_getElem? (i := 31) (by decide +kernel), List.mem_of_getElem? (i := 1062) (by decide +kernel), List.mem_of_getElem? (i := 1063) (by decide +kernel)⟩
theorem lw_p31 : lw_okq (⟨"FarfilesLaw", "hears", "()Z"⟩, 5) := ⟨⟨by decide +kernel, by decide +kernel⟩, List.mem_of_getElem? (i := 31) (by decide +kernel), List.mem_of_getElem? (i := 1086) (by decide +kernel), List.mem_of_getElem? (i := 1087) (by decide +kernel)⟩
def lw_privs_2 : List (MethodName × Nat) := [(⟨"Farfiles$Client", "goesAhead", "(II)Z"⟩, 12), (⟨"Farfiles", "nextOf", "(LFarfiles$Client;II)I"⟩, 16), (⟨"Farfiles", "hasDirectory", "(I)Z"⟩, 16), (⟨"Farfiles$Log", "gather", "(LFarfiles$ActSet;I)V"⟩, 5), (⟨"Farfiles$Log", "toldName", "(LFarfiles$Act;)I"⟩, 5), (⟨"Farfiles", "makeIn", "(LFarfiles$Client;IZ)I"⟩, 16), (⟨"Farfiles", "refuseIfThere", "(LFarfiles$Client;II)V"⟩, 16), (⟨"Farfiles", "refuseIfTooFew", "(I)V"⟩, 16), (⟨"Farfiles", "addEntry", "(LFarfiles$Client;III)V"⟩, 16), (⟨"Farfiles", "enter", "(LFarfiles$Client;LFarfiles$Act;)I"⟩, 16), (⟨"Farfiles$Log", "takeAddsLike", "(LFarfiles$Act;LFarfiles$Act;)V"⟩, 5), (⟨"Farfiles", "bringSome", "(LFarfiles$Client;I)I"⟩, 16), (⟨"Farfiles", "actOf", "(I)LFarfiles$Act;"⟩, 16), (⟨"Farfiles", "goOn", "(LFarfiles$Client;LFarfiles$Path;I)I"⟩, 16), (⟨"FarfilesLaw", "brings", "(I)V"⟩, 5), (⟨"FarfilesLaw", "hears", "()Z"⟩, 5)]
theorem lw_r2 : ∀ q ∈ lw_privs_2, lw_okq q := List.forall_mem_cons.mpr ⟨lw_p16, List.forall_mem_cons.mpr ⟨lw_p17, List.forall_mem_cons.mpr ⟨lw_p18, List.forall_mem_cons.mpr ⟨lw_p19, List.forall_mem_cons.mpr ⟨lw_p20, List.forall_mem_cons.mpr ⟨lw_p21, List.forall_mem_cons.mpr ⟨lw_p22, List.forall_mem_cons.mpr ⟨lw_p23, List.forall_mem_cons.mpr ⟨lw_p24, List.forall_mem_cons.mpr ⟨lw_p25, List.forall_mem_cons.mpr ⟨lw_p26, List.forall_mem_cons.mpr ⟨lw_p27, List.forall_mem_cons.mpr ⟨lw_p28, List.forall_mem_cons.mpr ⟨lw_p29, List.forall_mem_cons.mpr ⟨lw_p30, List.forall_mem_cons.mpr ⟨lw_p31, fun _ h => absurd h List.not_mem_nil⟩⟩⟩⟩⟩⟩⟩⟩⟩⟩⟩⟩⟩⟩⟩⟩
theorem lw_p32 : lw_okq (⟨"Farfiles", "wireOf", "(II)I"⟩, 16) := ⟨⟨by decide +kernel, by decide +kernel⟩, List.mem_of_getElem? (i := 39) (by decide +kernel), List.mem_of_getElem? (i := 1094) (by decide +kernel), List.mem_of_getElem? (i := 1095) (by decide +kernel)⟩
theorem lw_p33 : lw_okq (⟨"Farfiles", "serverOf", "(I)LFarfiles$ActSet;"⟩, 16) := ⟨⟨by decide +kernel, by decide +kernel⟩, List.mem_of_getElem? (i := 39) (by decide +kernel), List.mem_of_getElem? (i := 1104) (by decide +kernel), List.mem_of_getElem? (i := 1105) (by decide +kernel)⟩
theorem lw_p34 : lw_okq (⟨"FarfilesLaw", "isText", "(ILjava/lang/String;Ljava/lang/String;)Z"⟩, 5) := ⟨⟨by decide +kernel, by decide +kernel⟩, List.mem_of_getElem? (i := 31) (by decide +kernel), List.mem_of_getElem? (i := 1121) (by decide +kernel), List.mem_of_getElem? (i := 1122) (by decide +kernel)⟩
theorem lw_p35 : lw_okq (⟨"Farfiles", "tellFound", "(LFarfiles$Client;Z)I"⟩, 16) := ⟨⟨by decide +kernel, by decide +kernel⟩, List.mem_of_getElem? (i := 39) (by decide +kernel), List.mem_of_getElem? (i := 1129) (by decide +kernel), List.mem_of_getElem? (i := 1130) (by decide +kernel)⟩
theorem lw_p36 : lw_okq (⟨"Farfiles", "tellOf", "(LFarfiles$ActSet;I)I"⟩, 16) := ⟨⟨by decide +kernel, by decide +kernel⟩, List.mem_of_getElem? (i := 39) (by decide +kernel), List.mem_of_getElem? (i := 1133) (by decide +kernel), List.mem_of_getElem? (i := 1134) (by decide +kernel)⟩
theorem lw_p37 : lw_okq (⟨"Farfiles$Answers", "putAt", "(ILFarfiles$Act;II)V"⟩, 4) := ⟨⟨by decide +kernel, by decide +kernel⟩, List.mem_of_getElem? (i := 144) (by decide +kernel), List.mem_of_getElem? (i := 1149) (by decide +kernel), List.mem_of_getElem? (i := 1150) (by decide +kernel)⟩
theorem lw_p38 : lw_okq (⟨"Farfiles", "hasObject", "(I)Z"⟩, 16) := ⟨⟨by decide +kernel, by decide +kernel⟩, List.mem_of_getElem? (i := 39) (by decide +kernel), List.mem_of_getElem? (i := 1210) (by decide +kernel), List.mem_of_getElem? (i := 1211) (by decide +kernel)⟩
theorem lw_p39 : lw_okq (⟨"FarfilesLaw", "isLost", "()Z"⟩, 5) := ⟨⟨by decide +kernel, by decide +kernel⟩, List.mem_of_getElem? (i := 31) (by decide +kernel), List.mem_of_getElem? (i := 1215) (by decide +kernel), List.mem_of_getElem? (i := 1216) (by decide +kernel)⟩
theorem lw_p40 : lw_okq (⟨"Farfiles", "cutEntries", "(LFarfiles$Client;III)V"⟩, 16) := ⟨⟨by decide +kernel, by decide +kernel⟩, List.mem_of_getElem? (i := 39) (by decide +kernel), List.mem_of_getElem? (i := 1238) (by decide +kernel), List.mem_of_getElem? (i := 1239) (by decide +kernel)⟩
theorem lw_p41 : lw_okq (⟨"Farfiles", "markLost", "(LFarfiles$ActSet;[Z)V"⟩, 16) := ⟨⟨by decide +kernel, by decide +kernel⟩, List.mem_of_getElem? (i := 39) (by decide +kernel), List.mem_of_getElem? (i := 1246) (by decide +kernel), List.mem_of_getElem? (i := 1247) (by decide +kernel)⟩
theorem lw_p42 : lw_okq (⟨"Farfiles", "markWays", "(LFarfiles$ActSet;)V"⟩, 16) := ⟨⟨by decide +kernel, by decide +kernel⟩, List.mem_of_getElem? (i := 39) (by decide +kernel), List.mem_of_getElem? (i := 1250) (by decide +kernel), List.mem_of_getElem? (i := 1251) (by decide +kernel)⟩
theorem lw_p43 : lw_okq (⟨"FarfilesLaw", "isRenamed", "()Z"⟩, 5) := ⟨⟨by decide +kernel, by decide +kernel⟩, List.mem_of_getElem? (i := 31) (by decide +kernel), List.mem_of_getElem? (i := 1276) (by decide +kernel), List.mem_of_getElem? (i := 1277) (by decide +kernel)⟩
theorem lw_p44 : lw_okq (⟨"Farfiles", "takeTwoPaths", "()I"⟩, 16) := ⟨⟨by decide +kernel, by decide +kernel⟩, List.mem_of_getElem? (i := 39) (by decide +kernel), List.mem_of_getElem? (i := 1287) (by decide +kernel), List.mem_of_getElem? (i := 1288) (by decide +kernel)⟩
theorem lw_p45 : lw_okq (⟨"Farfiles", "isHoldSound", "(LFarfiles$Client;)Z"⟩, 16) := ⟨⟨by decide +kernel, by decide +kernel⟩, List.mem_of_getElem? (i := 39) (by decide +kernel), List.mem_of_getElem? (i := 1309) (by decide +kernel), List.mem_of_getElem? (i := 1310) (by decide +kernel)⟩
theorem lw_p46 : lw_okq (⟨"Farfiles", "isLostAlike", "(LFarfiles$ActSet;LFarfiles$ActSet;)Z"⟩, 16) := ⟨⟨by decide +kernel, by decide +kernel⟩, List.mem_of_getElem? (i := 39) (by decide +kernel), List.mem_of_getElem? (i := 1313) (by decide +kernel), List.mem_of_getElem? (i := 1314) (by decide +kernel)⟩
def lw_privs_3 : List (MethodName × Nat) := [(⟨"Farfiles", "wireOf", "(II)I"⟩, 16), (⟨"Farfiles", "serverOf", "(I)LFarfiles$ActSet;"⟩, 16), (⟨"FarfilesLaw", "isText", "(ILjava/lang/String;Ljava/lang/String;)Z"⟩, 5), (⟨"Farfiles", "tellFound", "(LFarfiles$Client;Z)I"⟩, 16), (⟨"Farfiles", "tellOf", "(LFarfiles$ActSet;I)I"⟩, 16), (⟨"Farfiles$Answers", "putAt", "(ILFarfiles$Act;II)V"⟩, 4), (⟨"Farfiles", "hasObject", "(I)Z"⟩, 16), (⟨"FarfilesLaw", "isLost", "()Z"⟩, 5), (⟨"Farfiles", "cutEntries", "(LFarfiles$Client;III)V"⟩, 16), (⟨"Farfiles", "markLost", "(LFarfiles$ActSet;[Z)V"⟩, 16), (⟨"Farfiles", "markWays", "(LFarfiles$ActSet;)V"⟩, 16), (⟨"FarfilesLaw", "isRenamed", "()Z"⟩, 5), (⟨"Farfiles", "takeTwoPaths", "()I"⟩, 16), (⟨"Farfiles", "isHoldSound", "(LFarfiles$Client;)Z"⟩, 16), (⟨"Farfiles", "isLostAlike", "(LFarfiles$ActSet;LFarfiles$ActSet;)Z"⟩, 16)]
theorem lw_r3 : ∀ q ∈ lw_privs_3, lw_okq q := List.forall_mem_cons.mpr ⟨lw_p32, List.forall_mem_cons.mpr ⟨lw_p33, List.forall_mem_cons.mpr ⟨lw_p34, List.forall_mem_cons.mpr ⟨lw_p35, List.forall_mem_cons.mpr ⟨lw_p36, List.forall_mem_cons.mpr ⟨lw_p37, List.forall_mem_cons.mpr ⟨lw_p38, List.forall_mem_cons.mpr ⟨lw_p39, List.forall_mem_cons.mpr ⟨lw_p40, List.forall_mem_cons.mpr ⟨lw_p41, List.forall_mem_cons.mpr ⟨lw_p42, List.forall_mem_cons.mpr ⟨lw_p43, List.forall_mem_cons.mpr ⟨lw_p44, List.forall_mem_cons.mpr ⟨lw_p45, List.forall_mem_cons.mpr ⟨lw_p46, fun _ h => absurd h List.not_mem_nil⟩⟩⟩⟩⟩⟩⟩⟩⟩⟩⟩⟩⟩⟩⟩
def lw_privs : List (MethodName × Nat) := lw_privs_1 ++ (lw_privs_2 ++ (lw_privs_3))
def lw_tbl : List Cond := k2_sels lw_privs ++ tables_1
theorem lw_privs_ok : ∀ q ∈ lw_privs, lw_okq q := by
  show ∀ q ∈ lw_privs_1 ++ (lw_privs_2 ++ (lw_privs_3)), lw_okq q
  exact List.forall_mem_append.mpr ⟨lw_r1, List.forall_mem_append.mpr ⟨lw_r2, lw_r3⟩⟩
end
section
/-! ===== BEGIN words of one list among another's, by their places ===== -/
theorem goodIn_r {big : List Cond} (ws : List Cond) (ps : List Nat) (hp : ws = ps.filterMap (fun i => big[i]?)) (h : ws.all goodWord = true) : GoodIn big ws := by
  intro w hw
  have h1 := List.all_eq_true.mp h w hw
  rw [hp] at hw
  obtain ⟨i, -, hi⟩ := List.mem_filterMap.mp hw
  have hm : w ∈ big := by first | exact List.mem_of_getElem? hi | exact List.getElem?_mem hi
  exact ⟨hm, good_of_word h1⟩
theorem goodIn_app {big a b : List Cond} (ha : GoodIn big a) (hb : GoodIn big b) : GoodIn big (a ++ b) := fun w h => (List.mem_append.mp h).elim (ha w) (hb w)
theorem goodIn_ca {big a b : List Cond} {c : Cond} (ha : GoodIn big (c :: a)) (hb : GoodIn big b) : GoodIn big (c :: (a ++ b)) := fun w h => (List.mem_cons.mp h).elim (fun e => ha w (List.mem_cons.mpr (Or.inl e))) (fun h => (List.mem_append.mp h).elim (fun h => ha w (List.mem_cons.mpr (Or.inr h))) (hb w))
theorem goodIn_sub {big ws : List Cond} (hm : ∀ w ∈ ws, w ∈ big) (h : ws.all goodWord = true) : GoodIn big ws := fun w hw => ⟨hm w hw, good_of_word (List.all_eq_true.mp h w hw)⟩
/-! ===== END ===== -/

/-! ===== BEGIN exceptions that leave a method, and their catching by the caller (launches without stack traces) ===== -/
section VXA
/-! The laws vx_back, vx_callV, vx_callS, vx_callSW, vx_throw0, vx_throwS follow proofs of the library, with one case more: JvmDerived/Free/Laws.lean (Back.of_free), Shelf42/LK1.lean (callV, callS), Shelf/KitTraced.lean (throwNew0V, throwNewS). -/
/-- where a method has thrown q: the class by its name, the cell, what was written, the world -/
def vx_T (XC : String → State → State → Prop) (st : State) (q : Addr) (t : State) (mc ms : Nat) (free : Addr → Prop) : Prop :=
  ∃ (E : String) (ce : Cell) (L : List Loc), XC E st t ∧ t.heap[q]? = some ce ∧ ce.vm = .none ∧ st.vm.findClass E = some ce.cls ∧ st.WarmedH t.vm ∧ st.sameButNew ({ t with vm := st.vm } : State) L mc ms ∧ ∀ z ∈ L, free z.base
def vx_Q (Qc : Array Value → State → Outcome → State → Prop) (XC : String → State → State → Prop) (mc ms : Nat) (free : Addr → Prop) : Array Value → State → Outcome → State → Prop := fun a st o t =>
  (Qc a st o t ∧ ∃ L, FrameEnd st o t L mc ms ∧ ∀ q ∈ L, free q.base) ∨ ∃ q, o = .threw q ∧ vx_T XC st q t mc ms free
/-- a callee that returns or throws -/
def vx_Met (l : Launch) (y : MethodName) (ws : List Cond) (rm : Room) (Pc : Array Value → State → Prop) (Qc : Array Value → State → Outcome → State → Prop) (XC : String → State → State → Prop) (mc ms : Nat) (free : Addr → Prop) : Prop :=
  MetFree l y (headSpec ws rm) Pc (fun _ _ _ _ _ => True) (vx_Q Qc XC mc ms free)
def vx_Post (XC : String → State → State → Prop) (mc ms : Nat) (free : Addr → Prop) : Pt → Array Value → Addr → Pt → Prop := fun A a q B =>
  ∃ (g : JFrame) (mk : MethodId) (t : State) (L : List Loc) (E : String) (ce : Cell), B.U.heap = t.heap ∧ B.U.vm = t.vm ∧ XC E (A.U.calling g mk a) t ∧ t.heap[q]? = some ce ∧ ce.vm = .none ∧ A.U.vm.findClass E = some ce.cls ∧ B.locs = A.locs ++ L ∧ (∀ z ∈ L, free z.base) ∧ B.cells = A.cells + mc ∧ B.slots = A.slots + ms
def vx_Back (l : Launch) (R : Room) (p : Program) (e : Env) (below : List Frame) (s : State) (sargs : Array Value) (y : MethodName) (len W9 : Nat)
    (Pre : Pt → Array Value → Prop) (Post : Pt → Array Value → Option Value → Pt → Prop) (PostX : Pt → Array Value → Addr → Pt → Prop) : Prop :=
  ∀ (m : MethodId) (meth : Method) (c : Code) (A : Pt) (g : JFrame) (ig : Instr) (mk : MethodId) (a : Array Value),
    Stand p l e R s m sargs below meth c A.U A.locs A.cells A.slots → g.method = m → g.locals.size = c.maxLocals → decode c.code g.pc = .ok (ig, len) →
    2 * g.monitorRoom + (g.stack.map fun v => v.category).sum ≤ W9 → A.U.methodNamed? y = some mk → Pre A a →
    (∃ (v : Option Value) (B : Pt), Stand p l e R s m sargs below meth c B.U B.locs B.cells B.slots ∧ Post A a v B ∧
      Steps p.tables e below (doInvoke e (A.U.setTop g) [] mk a).1 (B.U.setTop { g with pc := g.pc + len, stack := v.toList ++ g.stack })) ∨
    (∃ (q : Addr) (B : Pt), Stand p l e R s m sargs below meth c B.U B.locs B.cells B.slots ∧ PostX A a q B ∧
      Steps p.tables e below (doInvoke e (A.U.setTop g) [] mk a).1 ((B.U.setTop g).pushFrame (.throwing q)))
section Payer
variable {l : Launch} {R : Room} {p : Program} {e : Env} {below : List Frame} {s : State} {sargs : Array Value} {y : MethodName} {len W9 : Nat}
theorem vx_back {ws : List Cond} {rm : Room} {Pc : Array Value → State → Prop} {Qc : Array Value → State → Outcome → State → Prop} {XC : String → State → State → Prop} {mc ms : Nat} {free : Addr → Prop} {bytes : ByteArray} {maxL : Nat} {ret : Option FieldType}
    (hM : vx_Met l y ws rm Pc Qc XC mc ms free) (hblind : FrameBlind Pc) (hrc : rm.cells = mc) (hrs : rm.slots = ms)
    (hframes : rm.frames + 1 ≤ R.frames) (hlocals : W9 + (maxL + 11) + rm.locals ≤ R.locals)
    (hws : ∀ w ∈ ws, ∀ a' U, s.WarmedH U.vm → w.before a' U = true) (hcode : Cond.code y bytes maxL ret ∈ ws) (hinit : ∀ a' U, s.WarmedH U.vm → (Cond.initialized y.cls).before a' U = true) :
    vx_Back l R p e below s sargs y len W9 (PreOf R mc ms Pc) (PostOf Qc mc ms free) (vx_Post XC mc ms free) := by
  intro m meth c A g ig mk a X hg hsize hdg hW hn hp
  have h1 : (headSpec ws rm).pre.before a A.U = true := atoms_intro fun w hw => hws w hw _ _ X.warmed
  have h2 : (Cond.code y bytes maxL ret).before a A.U = true := hws _ hcode _ _ X.warmed
  have h3 : (Cond.initialized y.cls).before a A.U = true := hinit _ _ X.warmed
  have h4 : A.cells + (headSpec ws rm).room.cells ≤ R.cells := by rw [show (headSpec ws rm).room.cells = mc from hrc]; exact hp.1
  have h5 : A.slots + (headSpec ws rm).room.slots ≤ R.slots := by rw [show (headSpec ws rm).room.slots = ms from hrs]; exact hp.2.1
  have hPc : Pc a (A.U.calling g mk a) := hblind _ _ _ _ hp.2.2
  obtain ⟨U, Ls, c0, s0⟩ := A
  dsimp only [Pt.U, Pt.locs, Pt.cells, Pt.slots] at h1 h2 h3 h4 h5 X hn hPc ⊢
  obtain ⟨methY, cY, hmY, hcY, -, hlY, -, -, -, -⟩ := Cond.code_spec hn h2
  obtain ⟨kY, hkY, -⟩ := className_of_methodNamed hn
  have hinitY : kY.init = .initialized := Cond.initialized_spec (findClass_of_methodNamed hn) hkY h3
  have h : At U g.method c below := by rw [hg]; exact X.here
  have hlocals9 : W9 + (maxL + 11) + (headSpec ws rm).room.locals ≤ R.locals := hlocals
  have happ : (headSpec ws rm).appliesLoose y e.platform (U.calling g mk a) = true :=
    Spec.appliesLoose_calling (g := g) h hdg hn hkY hinitY
      (X.room_calling (g := g) (R' := (headSpec ws rm).room) hsize hmY hcY hframes (by rw [hlY]; omega) h4 h5) h1
  obtain ⟨mid, hmid⟩ := h.above
  have hfr : (U.setTop g).frames = (.java g :: mid) ++ below := by rw [State.frames_setTop' g h.top, hmid]; rfl
  obtain ⟨o, s₂, hsteps, -, hend, hq⟩ := Steps.callFree hM p X.admits X.cas X.clock (acts := []) hfr happ hPc trivial
  have hq' : vx_Q Qc XC mc ms free a (U.calling g mk a) o s₂ := hq
  rw [State.frames_setTop' g h.top] at hend
  obtain ⟨g₀, hg0⟩ := Option.isSome_iff_exists.mp h.top
  obtain ⟨r, hr⟩ := State.topJava?_eq_some.mp hg0
  have hr' : (({ U with heap := s₂.heap, slotsUsed := s₂.slotsUsed } : State).setVm s₂.vm).frames = .java g₀ :: r := hr
  rcases hq' with ⟨hqc, L, hfe, hL⟩ | ⟨q, rfl, E, ce, L, hx, hce, hcv, hcl, hW₂, hsm, hL⟩
  · obtain ⟨⟨v, rfl⟩, hW₂, e2, q2, q3, q4, q5, q6⟩ := id hfe
    have e3 : s₂ = ({ (U.calling g mk a).setFrames s₂.frames with heap := s₂.heap, slotsUsed := s₂.slotsUsed } : State).setVm s₂.vm := by
      have : s₂ = ({ s₂ with vm := (U.calling g mk a).vm } : State).setVm s₂.vm := rfl
      rw [e2] at this
      exact this
    obtain ⟨c₂, i₂, len₂, hc₂, hd₂, hf₂⟩ := hend
    have hW' : U.WarmedH s₂.vm := hW₂
    have hcc : c₂ = c := by
      have h1 : s₂.code? g.method = U.code? g.method := by
        rw [State.code?_eq, State.code?_eq, hW'.alike.method?]
      exact Option.some.inj (hc₂.symm.trans (h1.trans h.code))
    subst hcc
    have hlen : len₂ = len := by rw [hdg] at hd₂; cases hd₂; rfl
    subst hlen
    have hs₂ : s₂ = (({ U with heap := s₂.heap, slotsUsed := s₂.slotsUsed } : State).setVm s₂.vm).setTop { g with pc := g.pc + len₂, stack := v.toList ++ g.stack } := by
      refine e3.trans ?_
      rw [hf₂, State.calling_eq h.top, State.setFrames_setFrames, State.setTop_of_frames _ hr', hr]
      rfl
    have hsame : U.sameButNew ({ U with heap := s₂.heap, slotsUsed := s₂.slotsUsed } : State) L mc ms := by
      refine ⟨?_, q2, q3, q4, q5, q6⟩
      obtain ⟨t, ht, -⟩ := State.frames_cons hr
      show ({ U with heap := s₂.heap, slotsUsed := s₂.slotsUsed } : State) = { U.setFrames U.frames with heap := s₂.heap, slotsUsed := s₂.slotsUsed }
      rw [State.setFrames_self ht]
    subst hg
    refine Or.inl ⟨v, ⟨(({ U with heap := s₂.heap, slotsUsed := s₂.slotsUsed } : State).setVm s₂.vm), Ls ++ L, c0 + mc, s0 + ms⟩,
      ⟨X.admits, X.cas, X.clock, X.frames, X.room, X.hears, X.method, X.code, (X.here.setHeapUsed s₂.heap s₂.slotsUsed).setVm hW'.alike, X.tail, State.WarmedH.trans X.warmed hW', X.limits, X.bytes, X.same.trans (hsame.setVm s.vm)⟩,
      ⟨g, mk, s₂, L, rfl, rfl, hqc, rfl, hL, rfl, rfl⟩, ?_⟩
    show Steps p.tables e below _ ((({ U with heap := s₂.heap, slotsUsed := s₂.slotsUsed } : State).setVm s₂.vm).setTop { g with pc := g.pc + len₂, stack := v.toList ++ g.stack })
    rw [← hs₂]
    exact hsteps
  · obtain ⟨e2, q2, q3, q4, q5, q6⟩ := id hsm
    have e3 : s₂ = ({ (U.calling g mk a).setFrames s₂.frames with heap := s₂.heap, slotsUsed := s₂.slotsUsed } : State).setVm s₂.vm := by
      have : s₂ = ({ s₂ with vm := (U.calling g mk a).vm } : State).setVm s₂.vm := rfl
      rw [e2] at this
      exact this
    have hf₂ : s₂.frames = .throwing q :: .java g :: U.frames.tail := hend
    have hW' : U.WarmedH s₂.vm := hW₂
    have hs₂ : s₂ = ((({ U with heap := s₂.heap, slotsUsed := s₂.slotsUsed } : State).setVm s₂.vm).setTop g).pushFrame (.throwing q) := by
      refine e3.trans ?_
      rw [hf₂, State.calling_eq h.top, State.setFrames_setFrames, State.pushFrame, State.frames_setTop _ hr', State.setTop_of_frames _ hr', State.setFrames_setFrames, hr]
      rfl
    have hsame : U.sameButNew ({ U with heap := s₂.heap, slotsUsed := s₂.slotsUsed } : State) L mc ms := by
      refine ⟨?_, q2, q3, q4, q5, q6⟩
      obtain ⟨t, ht, -⟩ := State.frames_cons hr
      show ({ U with heap := s₂.heap, slotsUsed := s₂.slotsUsed } : State) = { U.setFrames U.frames with heap := s₂.heap, slotsUsed := s₂.slotsUsed }
      rw [State.setFrames_self ht]
    subst hg
    refine Or.inr ⟨q, ⟨(({ U with heap := s₂.heap, slotsUsed := s₂.slotsUsed } : State).setVm s₂.vm), Ls ++ L, c0 + mc, s0 + ms⟩,
      ⟨X.admits, X.cas, X.clock, X.frames, X.room, X.hears, X.method, X.code, (X.here.setHeapUsed s₂.heap s₂.slotsUsed).setVm hW'.alike, X.tail, State.WarmedH.trans X.warmed hW', X.limits, X.bytes, X.same.trans (hsame.setVm s.vm)⟩,
      ⟨g, mk, s₂, L, E, ce, rfl, rfl, hx, hce, hcv, hcl, rfl, hL, rfl, rfl⟩, ?_⟩
    show Steps p.tables e below _ (((({ U with heap := s₂.heap, slotsUsed := s₂.slotsUsed } : State).setVm s₂.vm).setTop g).pushFrame (.throwing q))
    rw [← hs₂]
    exact hsteps
end Payer
section Calls
variable {p : Program} {l : Launch} {e : Env} {R : Room} {s : State} {m : MethodId} {args : Array Value} {below : List Frame} {meth : Method} {c : Code} {T : State} {locs : List Loc} {cells slots : Nat}
theorem vx_callV (X : Stand p l e R s m args below meth c T locs cells slots) (hexec : p.tables.exec = Jvm.exec) {own C : String} {index : Nat} {y : MethodName} {bytes : ByteArray} {maxL : Nat} {ret : Option FieldType}
    (hown : s.vm.findClass own = some m.cls) (hlink : (Cond.methodLink own index y).before args s = true) (hinst : (Cond.instanceMethod y).before args s = true) (hsel : (Cond.selects C y y).before args s = true)
    (hcode : (Cond.code y bytes maxL ret).before args s = true) (hy : y.cls ≠ "java/lang/invoke/MethodHandle" ∧ y.cls ≠ "java/lang/invoke/VarHandle")
    {W9 : Nat} {Pre : Pt → Array Value → Prop} {Post : Pt → Array Value → Option Value → Pt → Prop} {PostX : Pt → Array Value → Addr → Pt → Prop} (hK : vx_Back l R p e below s args y 3 W9 Pre Post PostX)
    {b : Addr} {cellB : Cell} (hcell : T.heap[b]? = some cellB) (hobj : cellB.vm.isStatics = false) (hcls : s.vm.findClass C = some cellB.cls)
    {g : JFrame} (hg : g.method = m) (hsize : g.locals.size = c.maxLocals) {argsL rest : List Value} (hlen : ∀ sig, parseMethodDescriptor y.desc = some sig → argsL.length = sig.parameters.length)
    (hstack : g.stack = argsL.reverse ++ .ref b :: rest) (hW : 2 * g.monitorRoom + (rest.map fun v => v.category).sum ≤ W9) (hdg : decode c.code g.pc = .ok (.invokevirtual index, 3))
    (hpre : ∀ vm₁, s.WarmedH vm₁ → Pre ⟨T.setVm vm₁, locs, cells, slots⟩ (Value.ref b :: argsL).toArray) :
    (∃ (v : Option Value) (vm₁ : Vm) (B : Pt), s.WarmedH vm₁ ∧ Stand p l e R s m args below meth c B.U B.locs B.cells B.slots ∧ Post ⟨T.setVm vm₁, locs, cells, slots⟩ (Value.ref b :: argsL).toArray v B ∧
      ∀ target, Steps p.tables e below (B.U.setTop { g with pc := g.pc + 3, stack := v.toList ++ rest }) target → Steps p.tables e below (T.setTop g) target) ∨
    (∃ (q : Addr) (vm₁ : Vm) (B : Pt), s.WarmedH vm₁ ∧ Stand p l e R s m args below meth c B.U B.locs B.cells B.slots ∧ PostX ⟨T.setVm vm₁, locs, cells, slots⟩ (Value.ref b :: argsL).toArray q B ∧
      Steps p.tables e below (T.setTop g) ((B.U.setTop { g with stack := rest }).pushFrame (.throwing q))) := by
  obtain ⟨mk, methM, hnamed, hmethM, hstM, habM⟩ := Cond.instanceMethod_spec hinst
  obtain ⟨methM', cM, hmethM', -, -, -, -, -, -, hsigM⟩ := Cond.code_spec hnamed hcode
  cases hmethM.symm.trans hmethM'
  obtain ⟨c2, r2, m2, q1, q2, q3, q4, kP, hkP, hkPi⟩ := Cond.selects_spec hsel
  cases hcls.symm.trans q1
  cases (State.methodFound?_of_named hnamed hy).symm.trans q2
  cases hnamed.symm.trans q3
  have hselP : selectMethod e.platform s.vm cellB.cls mk = .method mk := by rw [Launch.admits_selectMethod X.admits]; exact q4
  obtain ⟨vm₁, X₁, hstep₁⟩ := X.invokevirtual hexec hown hlink hnamed hmethM hstM hkP hkPi hy (a := b) (cell := cellB) hcell
    (fun z h => by rw [h] at hobj; cases hobj) hselP hmethM habM hkP hkPi (g := g) hg (argsL := argsL) (rest := rest) (hlen _ hsigM) hstack hdg
  rcases hK m meth c ⟨T.setVm vm₁, locs, cells, slots⟩ { g with stack := rest } (.invokevirtual index) mk (Value.ref b :: argsL).toArray X₁ hg hsize hdg hW (X₁.named hnamed) (hpre vm₁ X₁.warmed) with ⟨v, B, X', hpost, hsteps⟩ | ⟨q, B, X', hpost, hsteps⟩
  · exact Or.inl ⟨v, vm₁, B, X₁.warmed, X', hpost, fun target h => hstep₁ _ fun acts => by rw [doInvoke_state]; exact hsteps.trans h⟩
  · exact Or.inr ⟨q, vm₁, B, X₁.warmed, X', hpost, hstep₁ _ fun acts => by rw [doInvoke_state]; exact hsteps⟩
theorem vx_callS (X : Stand p l e R s m args below meth c T locs cells slots) (hexec : p.tables.exec = Jvm.exec) {own : String} {index : Nat} {y : MethodName} {bytes : ByteArray} {maxL : Nat} {ret : Option FieldType}
    (hown : s.vm.findClass own = some m.cls) (hlink : (Cond.methodLink own index y).before args s = true) (hstat : (Cond.static y).before args s = true) (hinit : (Cond.initialized y.cls).before args s = true)
    (hcode : (Cond.code y bytes maxL ret).before args s = true) (hy : y.cls ≠ "java/lang/invoke/MethodHandle" ∧ y.cls ≠ "java/lang/invoke/VarHandle")
    {W9 : Nat} {Pre : Pt → Array Value → Prop} {Post : Pt → Array Value → Option Value → Pt → Prop} {PostX : Pt → Array Value → Addr → Pt → Prop} (hK : vx_Back l R p e below s args y 3 W9 Pre Post PostX)
    {g : JFrame} (hg : g.method = m) (hsize : g.locals.size = c.maxLocals) {argsL rest : List Value} (hlen : ∀ sig, parseMethodDescriptor y.desc = some sig → argsL.length = sig.parameters.length)
    (hstack : g.stack = argsL.reverse ++ rest) (hW : 2 * g.monitorRoom + (rest.map fun v => v.category).sum ≤ W9) (hdg : decode c.code g.pc = .ok (.invokestatic index, 3))
    (hpre : ∀ vm₁, s.WarmedH vm₁ → Pre ⟨T.setVm vm₁, locs, cells, slots⟩ argsL.toArray) :
    (∃ (v : Option Value) (vm₁ : Vm) (B : Pt), s.WarmedH vm₁ ∧ Stand p l e R s m args below meth c B.U B.locs B.cells B.slots ∧ Post ⟨T.setVm vm₁, locs, cells, slots⟩ argsL.toArray v B ∧
      ∀ target, Steps p.tables e below (B.U.setTop { g with pc := g.pc + 3, stack := v.toList ++ rest }) target → Steps p.tables e below (T.setTop g) target) ∨
    (∃ (q : Addr) (vm₁ : Vm) (B : Pt), s.WarmedH vm₁ ∧ Stand p l e R s m args below meth c B.U B.locs B.cells B.slots ∧ PostX ⟨T.setVm vm₁, locs, cells, slots⟩ argsL.toArray q B ∧
      Steps p.tables e below (T.setTop g) ((B.U.setTop { g with stack := rest }).pushFrame (.throwing q))) := by
  obtain ⟨mk, hnamed⟩ := Cond.code_named hcode
  obtain ⟨methM, cM, hmethM, -, -, -, -, -, -, hsigM⟩ := Cond.code_spec hnamed hcode
  have hstatic : methM.isStatic = true := Cond.static_spec hnamed hmethM hstat
  obtain ⟨kP, hkP, -⟩ := className_of_methodNamed hnamed
  have hinitP : kP.init = .initialized := Cond.initialized_spec (findClass_of_methodNamed hnamed) hkP hinit
  obtain ⟨vm₁, X₁, hstep₁⟩ := X.invokestatic hexec hown hlink hnamed hmethM hstatic hkP hinitP hy (g := g) hg (argsL := argsL) (rest := rest) (hlen _ hsigM) hstack hdg
  rcases hK m meth c ⟨T.setVm vm₁, locs, cells, slots⟩ { g with stack := rest } (.invokestatic index) mk argsL.toArray X₁ hg hsize hdg hW (X₁.named hnamed) (hpre vm₁ X₁.warmed) with ⟨v, B, X', hpost, hsteps⟩ | ⟨q, B, X', hpost, hsteps⟩
  · exact Or.inl ⟨v, vm₁, B, X₁.warmed, X', hpost, fun target h => hstep₁ _ fun acts => by rw [doInvoke_state]; exact hsteps.trans h⟩
  · exact Or.inr ⟨q, vm₁, B, X₁.warmed, X', hpost, hstep₁ _ fun acts => by rw [doInvoke_state]; exact hsteps⟩
end Calls
theorem vx_cls {s : State} {T : State} {vm₁ : Vm} {E : String} {k : ClassId} (hW : s.WarmedH vm₁) (h : (T.setVm vm₁).vm.findClass E = some k) : s.vm.findClass E = some k := by
  have h1 : vm₁.findClass E = some k := h
  rw [hW.alike.findClass] at h1
  exact h1
/-- the method's frame g, with q thrown over it -/
def vx_W (p : Program) (l : Launch) (e : Env) (R : Room) (s : State) (m : MethodId) (args : Array Value) (below : List Frame) (meth : Method) (c : Code) (H : Heap) (locs : List Loc) (cells slots : Nat) (Q : State → Prop) (g : JFrame) (q : Addr) : Prop :=
  ∀ T : State, T.heap = H → Stand p l e R s m args below meth c T locs cells slots → ∃ t, Steps p.tables e below ((T.setTop g).pushFrame (.throwing q)) t ∧ Q t
def vx_Run (p : Program) (l : Launch) (e : Env) (R : Room) (s : State) (m : MethodId) (args : Array Value) (below : List Frame) (meth : Method) (c : Code) (H : Heap) (locs : List Loc) (cells slots mc ms : Nat) (g : JFrame) (rest : List Value) (Qa : State → Outcome → State → Prop) (XC : String → State → State → Prop) (free : Addr → Prop) : Prop :=
  ∀ T : State, T.heap = H → Stand p l e R s m args below meth c T locs cells slots →
    (∃ (v : Option Value) (st₀ t T' : State) (L : List Loc), st₀.heap = H ∧ Stand p l e R s m args below meth c T' (locs ++ L) (cells + mc) (slots + ms) ∧ (∀ q ∈ L, free q.base) ∧ T'.heap = t.heap ∧ T'.vm = t.vm ∧ Qa st₀ (.returned v) t ∧
      Goes p e below T g T' { g with pc := g.pc + 3, stack := v.toList ++ rest }) ∨
    (∃ (q : Addr) (st₀ t T' : State) (L : List Loc) (E : String) (ce : Cell), st₀.heap = H ∧ Stand p l e R s m args below meth c T' (locs ++ L) (cells + mc) (slots + ms) ∧ (∀ z ∈ L, free z.base) ∧ T'.heap = t.heap ∧ T'.vm = t.vm ∧ XC E st₀ t ∧ t.heap[q]? = some ce ∧ ce.vm = .none ∧ s.vm.findClass E = some ce.cls ∧
      Steps p.tables e below (T.setTop g) ((T'.setTop { g with stack := rest }).pushFrame (.throwing q)))
def vx_X {S : Type} (px : S → Prop) (B : String → S → State → Prop) (A : Nat → Prop) : String → State → State → Prop := fun E st t => ∃ u : S, px u ∧ B E u t ∧ va_F A st t
section Runs
variable {p : Program} {l : Launch} {e : Env} {R : Room} {s : State} {m : MethodId} {args : Array Value} {below : List Frame} {meth : Method} {c : Code} {H : Heap} {locs : List Loc} {cells slots : Nat}
variable {y : MethodName} {bytes cc : ByteArray} {maxL nL mc ms n index : Nat} {ret : Option FieldType} {ws : List Cond} {rm : Room} {Pc : Array Value → State → Prop} {Qc : Array Value → State → Outcome → State → Prop} {XC : String → State → State → Prop} {free : Addr → Prop} {Ts : List Cond} {own C : String} {b : Addr} {As rest : List Value} {g : JFrame}
theorem vx_callBack (cb : CallB R s args own index y bytes maxL ret ws rm mc ms n) (hM : vx_Met l y ws rm Pc Qc XC mc ms free) (hbl : FrameBlind Pc) : vx_Back l R p e below s args y 3 8 (PreOf R mc ms Pc) (PostOf Qc mc ms free) (vx_Post XC mc ms free) := by
  obtain ⟨hrc, hrs, hfr, hlo, hws, hcw, -, hini, -⟩ := cb
  exact vx_back (bytes := bytes) (maxL := maxL) (ret := ret) hM hbl hrc hrs hfr hlo hws hcw (fun a' U hW => word_at hW (Or.inl (by first | rfl | simp [Cond.onTables, Cond.keeps, Cond.steady])) hini)
theorem vx_runV (S : CallFix p m c cc nL s args Ts own) (hM : vx_Met l y ws rm Pc Qc XC mc ms free) (cw : CallW R s args own C index y bytes maxL ret ws rm mc ms n) (hp : PreV s H C b Pc As)
    (hg : g.method = m) (hn : As.length = n) (hsize : g.locals.size = nL) (hstack : g.stack = As.reverse ++ .ref b :: rest) (hW : 2 * g.monitorRoom + (rest.map fun v => v.category).sum ≤ 8) (hdg : decode cc g.pc = .ok (.invokevirtual index, 3)) (hf : cells + mc ≤ R.cells ∧ slots + ms ≤ R.slots) :
    vx_Run p l e R s m args below meth c H locs cells slots mc ms g rest (Qc (Value.ref b :: As).toArray) XC free := by
  have hK : vx_Back l R p e below s args y 3 8 (PreOf R mc ms Pc) (PostOf Qc mc ms free) (vx_Post XC mc ms free) := vx_callBack cw.1 hM hp.1
  obtain ⟨⟨-, -, -, -, -, -, hcode, -, hy, hlen, hl⟩, hin, hse⟩ := cw
  obtain ⟨hx, hb, hml, ho, -⟩ := S
  obtain ⟨-, ⟨cellB, hcB, hoB, hclB⟩, hPc⟩ := hp
  intro T hT X
  rcases vx_callV X hx (C := C) (bytes := bytes) (maxL := maxL) (ret := ret) ho hl hin hse hcode hy hK (by rw [hT]; exact hcB) hoB hclB hg (hsize.trans hml.symm) (argsL := As) (rest := rest) (fun sig h => hn.trans (hlen sig h)) hstack hW (by rw [hb]; exact hdg)
    (fun vm₁ hW₁ => ⟨hf.1, hf.2, hPc (T.setVm vm₁) hT hW₁⟩) with ⟨v, vm₁, ⟨U', l2, c2, s2⟩, hW₁, X', ⟨g', mk, t, L, e1, e2, hq, h1, hL, h2, h3⟩, st⟩ | ⟨q, vm₁, ⟨U', l2, c2, s2⟩, hW₁, X', ⟨g', mk, t, L, E, ce, e1, e2, hq, hce, hcv, hcl, h1, hL, h2, h3⟩, st⟩
  · dsimp only [Pt.U, Pt.locs, Pt.cells, Pt.slots] at X' e1 e2 h1 h2 h3 st
    subst h1; subst h2; subst h3
    exact Or.inl ⟨v, (T.setVm vm₁).calling g' mk (Value.ref b :: As).toArray, t, U', L, hT, X', hL, e1, e2, hq, st⟩
  · dsimp only [Pt.U, Pt.locs, Pt.cells, Pt.slots] at X' e1 e2 h1 h2 h3 st hcl
    subst h1; subst h2; subst h3
    exact Or.inr ⟨q, (T.setVm vm₁).calling g' mk (Value.ref b :: As).toArray, t, U', L, E, ce, hT, X', hL, e1, e2, hq, hce, hcv, vx_cls hW₁ hcl, st⟩
theorem vx_runS (S : CallFix p m c cc nL s args Ts own) (hM : vx_Met l y ws rm Pc Qc XC mc ms free) (cw : CallB R s args own index y bytes maxL ret ws rm mc ms n ∧ (Cond.static y).before args s = true) (hp : PreS s H Pc As)
    (hg : g.method = m) (hn : As.length = n) (hsize : g.locals.size = nL) (hstack : g.stack = As.reverse ++ rest) (hW : 2 * g.monitorRoom + (rest.map fun v => v.category).sum ≤ 8) (hdg : decode cc g.pc = .ok (.invokestatic index, 3)) (hf : cells + mc ≤ R.cells ∧ slots + ms ≤ R.slots) :
    vx_Run p l e R s m args below meth c H locs cells slots mc ms g rest (Qc As.toArray) XC free := by
  have hK : vx_Back l R p e below s args y 3 8 (PreOf R mc ms Pc) (PostOf Qc mc ms free) (vx_Post XC mc ms free) := vx_callBack cw.1 hM hp.1
  obtain ⟨⟨-, -, -, -, -, -, hcode, hini, hy, hlen, hl⟩, hstt⟩ := cw
  obtain ⟨hx, hb, hml, ho, -⟩ := S
  intro T hT X
  rcases vx_callS X hx (bytes := bytes) (maxL := maxL) (ret := ret) ho hl hstt hini hcode hy hK hg (hsize.trans hml.symm) (argsL := As) (rest := rest) (fun sig h => hn.trans (hlen sig h)) hstack hW (by rw [hb]; exact hdg)
    (fun vm₁ hW₁ => ⟨hf.1, hf.2, hp.2 (T.setVm vm₁) hT hW₁⟩) with ⟨v, vm₁, ⟨U', l2, c2, s2⟩, hW₁, X', ⟨g', mk, t, L, e1, e2, hq, h1, hL, h2, h3⟩, st⟩ | ⟨q, vm₁, ⟨U', l2, c2, s2⟩, hW₁, X', ⟨g', mk, t, L, E, ce, e1, e2, hq, hce, hcv, hcl, h1, hL, h2, h3⟩, st⟩
  · dsimp only [Pt.U, Pt.locs, Pt.cells, Pt.slots] at X' e1 e2 h1 h2 h3 st
    subst h1; subst h2; subst h3
    exact Or.inl ⟨v, (T.setVm vm₁).calling g' mk As.toArray, t, U', L, hT, X', hL, e1, e2, hq, st⟩
  · dsimp only [Pt.U, Pt.locs, Pt.cells, Pt.slots] at X' e1 e2 h1 h2 h3 st hcl
    subst h1; subst h2; subst h3
    exact Or.inr ⟨q, (T.setVm vm₁).calling g' mk As.toArray, t, U', L, E, ce, hT, X', hL, e1, e2, hq, hce, hcv, vx_cls hW₁ hcl, st⟩
end Runs
section Rows
variable {p : Program} {l : Launch} {e : Env} {R : Room} {s : State} {m : MethodId} {args : Array Value} {below : List Frame} {meth : Method} {c : Code} {H : Heap} {locs : List Loc} {cells slots : Nat} {Q : State → Prop}
variable {mc ms : Nat} {free : Addr → Prop} {A0 A1 : Nat → Prop} {H0 : Heap} {a : Array Value} {pc : Nat} {ls : Array Slot} {st0 rest : List Value}
theorem vx_keep {st₀ t T' : State} {L : List Loc} (h0 : st₀.heap = H) (e1 : T'.heap = t.heap) (hS : va_S A0 H0 H locs) (hA : ∀ q, q < H.size → A1 q → A0 q) (hf : ∀ q, free q → A0 q) (hL : ∀ q ∈ L, free q.base) (hF : va_F A1 st₀ t) :
    H.size ≤ T'.heap.size ∧ (∀ q : Nat, q < H.size → ¬ A1 q → T'.heap[q]? = H[q]?) ∧ va_S A0 H0 T'.heap (locs ++ L) := by
  obtain ⟨hz, hk⟩ := hF
  rw [h0] at hz hk
  exact ⟨by rw [e1]; exact hz, fun q h1 h2 => by rw [e1]; exact hk q h1 h2,
    ⟨Nat.le_trans hS.1 (by rw [e1]; exact hz), fun q h1 h2 => by rw [e1, hk q (Nat.lt_of_lt_of_le h1 hS.1) (fun z => h2 (hA q (Nat.lt_of_lt_of_le h1 hS.1) z))]; exact hS.2.1 q h1 h2, fun q hq => by
      rcases List.mem_append.mp hq with h | h
      · exact hS.2.2 q h
      · exact hf _ (hL q h)⟩⟩
theorem vx_calli {S SX : Type} {post : Int32 → S → Prop} {px : SX → Prop} {B : S → State → Prop} {BX : String → SX → State → Prop} {AX : Nat → Prop} (hr : vx_Run p l e R s m args below meth c H locs cells slots mc ms (F0 m pc ls st0) rest (va_Qi post B A1 a) (vx_X px BX AX) free) (hS : va_S A0 H0 H locs) (hA : ∀ q, q < H.size → A1 q → A0 q) (hf : ∀ q, free q → A0 q) (hAX : ∀ q, q < H.size → AX q → A0 q)
    (kx : ∀ (E : String) (ce : Cell) (q9 : Addr) (u : SX) (t : State) (H1 : Heap) (locs1 : List Loc), t.heap = H1 → s.vm.Alike t.vm → px u → BX E u t → H.size ≤ H1.size → (∀ q : Nat, q < H.size → ¬ AX q → H1[q]? = H[q]?) → va_S A0 H0 H1 locs1 → H1[q9]? = some ce → ce.vm = .none → s.vm.findClass E = some ce.cls → vx_W p l e R s m args below meth c H1 locs1 (cells + mc) (slots + ms) Q (F0 m pc ls rest) q9)
    (kk : ∀ (r : Int32) (u : S) (t : State) (H1 : Heap) (locs1 : List Loc), t.heap = H1 → s.vm.Alike t.vm → post r u → B u t → H.size ≤ H1.size → (∀ q : Nat, q < H.size → ¬ A1 q → H1[q]? = H[q]?) → va_S A0 H0 H1 locs1 → W p l e R s m args below meth c H1 locs1 (cells + mc) (slots + ms) Q (F0 m (pc + 3) ls (.int r :: rest))) : W p l e R s m args below meth c H locs cells slots Q (F0 m pc ls st0) := by
  intro T hT X
  rcases hr T hT X with ⟨v, st₀, t, T', L, h0, X', hL, e1, e2, ⟨⟨r, u, hv, hp, hb⟩, hF⟩, st⟩ | ⟨q, st₀, t, T', L, E, ce, h0, X', hL, e1, e2, ⟨u, hp, hb, hF⟩, hce, hcv, hcl, st⟩
  · cases hv
    obtain ⟨k1, k2, k3⟩ := vx_keep h0 e1 hS hA hf hL hF
    obtain ⟨t2, a1, b1⟩ := kk r u t T'.heap (locs ++ L) e1.symm (by rw [← e2]; exact X'.warmed.alike) hp hb k1 k2 k3 T' rfl X'
    exact ⟨t2, st t2 a1, b1⟩
  · obtain ⟨k1, k2, k3⟩ := vx_keep h0 e1 hS hAX hf hL hF
    obtain ⟨t2, a1, b1⟩ := kx E ce q u t T'.heap (locs ++ L) e1.symm (by rw [← e2]; exact X'.warmed.alike) hp hb k1 k2 k3 (by rw [e1]; exact hce) hcv hcl T' rfl X'
    exact ⟨t2, st.trans a1, b1⟩
theorem vx_calll {S SX : Type} {post : Int64 → S → Prop} {px : SX → Prop} {B : S → State → Prop} {BX : String → SX → State → Prop} {AX : Nat → Prop} (hr : vx_Run p l e R s m args below meth c H locs cells slots mc ms (F0 m pc ls st0) rest (va_Ql post B A1 a) (vx_X px BX AX) free) (hS : va_S A0 H0 H locs) (hA : ∀ q, q < H.size → A1 q → A0 q) (hf : ∀ q, free q → A0 q) (hAX : ∀ q, q < H.size → AX q → A0 q)
    (kx : ∀ (E : String) (ce : Cell) (q9 : Addr) (u : SX) (t : State) (H1 : Heap) (locs1 : List Loc), t.heap = H1 → s.vm.Alike t.vm → px u → BX E u t → H.size ≤ H1.size → (∀ q : Nat, q < H.size → ¬ AX q → H1[q]? = H[q]?) → va_S A0 H0 H1 locs1 → H1[q9]? = some ce → ce.vm = .none → s.vm.findClass E = some ce.cls → vx_W p l e R s m args below meth c H1 locs1 (cells + mc) (slots + ms) Q (F0 m pc ls rest) q9)
    (kk : ∀ (r : Int64) (u : S) (t : State) (H1 : Heap) (locs1 : List Loc), t.heap = H1 → s.vm.Alike t.vm → post r u → B u t → H.size ≤ H1.size → (∀ q : Nat, q < H.size → ¬ A1 q → H1[q]? = H[q]?) → va_S A0 H0 H1 locs1 → W p l e R s m args below meth c H1 locs1 (cells + mc) (slots + ms) Q (F0 m (pc + 3) ls (.long r :: rest))) : W p l e R s m args below meth c H locs cells slots Q (F0 m pc ls st0) := by
  intro T hT X
  rcases hr T hT X with ⟨v, st₀, t, T', L, h0, X', hL, e1, e2, ⟨⟨r, u, hv, hp, hb⟩, hF⟩, st⟩ | ⟨q, st₀, t, T', L, E, ce, h0, X', hL, e1, e2, ⟨u, hp, hb, hF⟩, hce, hcv, hcl, st⟩
  · cases hv
    obtain ⟨k1, k2, k3⟩ := vx_keep h0 e1 hS hA hf hL hF
    obtain ⟨t2, a1, b1⟩ := kk r u t T'.heap (locs ++ L) e1.symm (by rw [← e2]; exact X'.warmed.alike) hp hb k1 k2 k3 T' rfl X'
    exact ⟨t2, st t2 a1, b1⟩
  · obtain ⟨k1, k2, k3⟩ := vx_keep h0 e1 hS hAX hf hL hF
    obtain ⟨t2, a1, b1⟩ := kx E ce q u t T'.heap (locs ++ L) e1.symm (by rw [← e2]; exact X'.warmed.alike) hp hb k1 k2 k3 (by rw [e1]; exact hce) hcv hcl T' rfl X'
    exact ⟨t2, st.trans a1, b1⟩
theorem vx_callf {S SX : Type} {post : UInt32 → S → Prop} {px : SX → Prop} {B : S → State → Prop} {BX : String → SX → State → Prop} {AX : Nat → Prop} (hr : vx_Run p l e R s m args below meth c H locs cells slots mc ms (F0 m pc ls st0) rest (va_Qf post B A1 a) (vx_X px BX AX) free) (hS : va_S A0 H0 H locs) (hA : ∀ q, q < H.size → A1 q → A0 q) (hf : ∀ q, free q → A0 q) (hAX : ∀ q, q < H.size → AX q → A0 q)
    (kx : ∀ (E : String) (ce : Cell) (q9 : Addr) (u : SX) (t : State) (H1 : Heap) (locs1 : List Loc), t.heap = H1 → s.vm.Alike t.vm → px u → BX E u t → H.size ≤ H1.size → (∀ q : Nat, q < H.size → ¬ AX q → H1[q]? = H[q]?) → va_S A0 H0 H1 locs1 → H1[q9]? = some ce → ce.vm = .none → s.vm.findClass E = some ce.cls → vx_W p l e R s m args below meth c H1 locs1 (cells + mc) (slots + ms) Q (F0 m pc ls rest) q9)
    (kk : ∀ (r : UInt32) (u : S) (t : State) (H1 : Heap) (locs1 : List Loc), t.heap = H1 → s.vm.Alike t.vm → post r u → B u t → H.size ≤ H1.size → (∀ q : Nat, q < H.size → ¬ A1 q → H1[q]? = H[q]?) → va_S A0 H0 H1 locs1 → W p l e R s m args below meth c H1 locs1 (cells + mc) (slots + ms) Q (F0 m (pc + 3) ls (.float r :: rest))) : W p l e R s m args below meth c H locs cells slots Q (F0 m pc ls st0) := by
  intro T hT X
  rcases hr T hT X with ⟨v, st₀, t, T', L, h0, X', hL, e1, e2, ⟨⟨r, u, hv, hp, hb⟩, hF⟩, st⟩ | ⟨q, st₀, t, T', L, E, ce, h0, X', hL, e1, e2, ⟨u, hp, hb, hF⟩, hce, hcv, hcl, st⟩
  · cases hv
    obtain ⟨k1, k2, k3⟩ := vx_keep h0 e1 hS hA hf hL hF
    obtain ⟨t2, a1, b1⟩ := kk r u t T'.heap (locs ++ L) e1.symm (by rw [← e2]; exact X'.warmed.alike) hp hb k1 k2 k3 T' rfl X'
    exact ⟨t2, st t2 a1, b1⟩
  · obtain ⟨k1, k2, k3⟩ := vx_keep h0 e1 hS hAX hf hL hF
    obtain ⟨t2, a1, b1⟩ := kx E ce q u t T'.heap (locs ++ L) e1.symm (by rw [← e2]; exact X'.warmed.alike) hp hb k1 k2 k3 (by rw [e1]; exact hce) hcv hcl T' rfl X'
    exact ⟨t2, st.trans a1, b1⟩
theorem vx_calld {S SX : Type} {post : UInt64 → S → Prop} {px : SX → Prop} {B : S → State → Prop} {BX : String → SX → State → Prop} {AX : Nat → Prop} (hr : vx_Run p l e R s m args below meth c H locs cells slots mc ms (F0 m pc ls st0) rest (va_Qd post B A1 a) (vx_X px BX AX) free) (hS : va_S A0 H0 H locs) (hA : ∀ q, q < H.size → A1 q → A0 q) (hf : ∀ q, free q → A0 q) (hAX : ∀ q, q < H.size → AX q → A0 q)
    (kx : ∀ (E : String) (ce : Cell) (q9 : Addr) (u : SX) (t : State) (H1 : Heap) (locs1 : List Loc), t.heap = H1 → s.vm.Alike t.vm → px u → BX E u t → H.size ≤ H1.size → (∀ q : Nat, q < H.size → ¬ AX q → H1[q]? = H[q]?) → va_S A0 H0 H1 locs1 → H1[q9]? = some ce → ce.vm = .none → s.vm.findClass E = some ce.cls → vx_W p l e R s m args below meth c H1 locs1 (cells + mc) (slots + ms) Q (F0 m pc ls rest) q9)
    (kk : ∀ (r : UInt64) (u : S) (t : State) (H1 : Heap) (locs1 : List Loc), t.heap = H1 → s.vm.Alike t.vm → post r u → B u t → H.size ≤ H1.size → (∀ q : Nat, q < H.size → ¬ A1 q → H1[q]? = H[q]?) → va_S A0 H0 H1 locs1 → W p l e R s m args below meth c H1 locs1 (cells + mc) (slots + ms) Q (F0 m (pc + 3) ls (.double r :: rest))) : W p l e R s m args below meth c H locs cells slots Q (F0 m pc ls st0) := by
  intro T hT X
  rcases hr T hT X with ⟨v, st₀, t, T', L, h0, X', hL, e1, e2, ⟨⟨r, u, hv, hp, hb⟩, hF⟩, st⟩ | ⟨q, st₀, t, T', L, E, ce, h0, X', hL, e1, e2, ⟨u, hp, hb, hF⟩, hce, hcv, hcl, st⟩
  · cases hv
    obtain ⟨k1, k2, k3⟩ := vx_keep h0 e1 hS hA hf hL hF
    obtain ⟨t2, a1, b1⟩ := kk r u t T'.heap (locs ++ L) e1.symm (by rw [← e2]; exact X'.warmed.alike) hp hb k1 k2 k3 T' rfl X'
    exact ⟨t2, st t2 a1, b1⟩
  · obtain ⟨k1, k2, k3⟩ := vx_keep h0 e1 hS hAX hf hL hF
    obtain ⟨t2, a1, b1⟩ := kx E ce q u t T'.heap (locs ++ L) e1.symm (by rw [← e2]; exact X'.warmed.alike) hp hb k1 k2 k3 (by rw [e1]; exact hce) hcv hcl T' rfl X'
    exact ⟨t2, st.trans a1, b1⟩
theorem vx_callv {S SX : Type} {post : S → Prop} {px : SX → Prop} {B : S → State → Prop} {BX : String → SX → State → Prop} {AX : Nat → Prop} (hr : vx_Run p l e R s m args below meth c H locs cells slots mc ms (F0 m pc ls st0) rest (va_Qv post B A1 a) (vx_X px BX AX) free) (hS : va_S A0 H0 H locs) (hA : ∀ q, q < H.size → A1 q → A0 q) (hf : ∀ q, free q → A0 q) (hAX : ∀ q, q < H.size → AX q → A0 q)
    (kx : ∀ (E : String) (ce : Cell) (q9 : Addr) (u : SX) (t : State) (H1 : Heap) (locs1 : List Loc), t.heap = H1 → s.vm.Alike t.vm → px u → BX E u t → H.size ≤ H1.size → (∀ q : Nat, q < H.size → ¬ AX q → H1[q]? = H[q]?) → va_S A0 H0 H1 locs1 → H1[q9]? = some ce → ce.vm = .none → s.vm.findClass E = some ce.cls → vx_W p l e R s m args below meth c H1 locs1 (cells + mc) (slots + ms) Q (F0 m pc ls rest) q9)
    (kk : ∀ (u : S) (t : State) (H1 : Heap) (locs1 : List Loc), t.heap = H1 → s.vm.Alike t.vm → post u → B u t → H.size ≤ H1.size → (∀ q : Nat, q < H.size → ¬ A1 q → H1[q]? = H[q]?) → va_S A0 H0 H1 locs1 → W p l e R s m args below meth c H1 locs1 (cells + mc) (slots + ms) Q (F0 m (pc + 3) ls (rest))) : W p l e R s m args below meth c H locs cells slots Q (F0 m pc ls st0) := by
  intro T hT X
  rcases hr T hT X with ⟨v, st₀, t, T', L, h0, X', hL, e1, e2, ⟨⟨u, hv, hp, hb⟩, hF⟩, st⟩ | ⟨q, st₀, t, T', L, E, ce, h0, X', hL, e1, e2, ⟨u, hp, hb, hF⟩, hce, hcv, hcl, st⟩
  · cases hv
    obtain ⟨k1, k2, k3⟩ := vx_keep h0 e1 hS hA hf hL hF
    obtain ⟨t2, a1, b1⟩ := kk u t T'.heap (locs ++ L) e1.symm (by rw [← e2]; exact X'.warmed.alike) hp hb k1 k2 k3 T' rfl X'
    exact ⟨t2, st t2 a1, b1⟩
  · obtain ⟨k1, k2, k3⟩ := vx_keep h0 e1 hS hAX hf hL hF
    obtain ⟨t2, a1, b1⟩ := kx E ce q u t T'.heap (locs ++ L) e1.symm (by rw [← e2]; exact X'.warmed.alike) hp hb k1 k2 k3 (by rw [e1]; exact hce) hcv hcl T' rfl X'
    exact ⟨t2, st.trans a1, b1⟩
/-- caught by the row x of this method's table; the rows ahead don't take it -/
theorem vx_catch {own name : String} {E : String} {ce : Cell} {q : Addr} (hown : s.vm.findClass own = some m.cls) (pre : List ExceptionTableEntry) (x : ExceptionTableEntry) (suf : List ExceptionTableEntry) (hsplit : c.exceptionTable.toList = pre ++ x :: suf)
    (hpass : ∀ z ∈ pre, covers z pc = false ∨ (z.catchType ≠ 0 ∧ ∃ nm : String, (Cond.classLink own z.catchType nm).before args s = true ∧ va_Nc E nm s)) (hx : covers x pc = true) (h0 : x.catchType ≠ 0)
    (hlink : (Cond.classLink own x.catchType name).before args s = true) (hcast : (Cond.castable E name).before args s = true) (hcell : H[q]? = some ce) (hv : ce.vm = .none) (hcl : s.vm.findClass E = some ce.cls)
    (kk : W p l e R s m args below meth c H locs cells slots Q (F0 m x.handlerPc ls [.ref q])) : vx_W p l e R s m args below meth c H locs cells slots Q (F0 m pc ls rest) q := by
  intro T hT X
  have hpl : e.platform.magicAccessors = ({} : Platform).magicAccessors := by rw [X.admits.platform]
  obtain ⟨c3, c4, hc3, hc4, hasg⟩ := Cond.castable_spec hcast
  cases Option.some.inj (hc3.symm.trans hcl)
  obtain ⟨c5, hc5, hcl5⟩ := Cond.classLink_spec hown hlink e.platform hpl
  cases Option.some.inj (hc4.symm.trans hc5)
  obtain ⟨vm', X', st⟩ := X.thenCaughtThrough q (g := F0 m pc ls rest) rfl (Steps.refl _) (by rw [hT]; exact hcell) (by rw [hv]; rfl) (by obtain ⟨k9, h9, -⟩ := Vm.findClass_spec hcl; exact ⟨k9, h9⟩) pre x suf hsplit
    (fun z hz => by
      rcases hpass z hz with h | ⟨hz0, nm, hl1, hn1⟩
      · exact Or.inl h
      · obtain ⟨c6, hc6, hcl6⟩ := Cond.classLink_spec hown hl1 e.platform hpl
        obtain ⟨a8, b8, h1, h2, h3⟩ := hn1
        cases Option.some.inj (h1.symm.trans hcl)
        cases Option.some.inj (h2.symm.trans hc6)
        exact Or.inr ⟨hz0, _, hcl6, h3⟩) hx (Or.inr ⟨h0, c4, hcl5, hasg⟩)
  obtain ⟨t, a1, b1⟩ := kk (T.setVm vm') hT X'
  exact ⟨t, st.trans a1, b1⟩
end Rows
section Ends
variable {p : Program} {l : Launch} {e : Env} {R : Room} {s : State} {m : MethodId} {args : Array Value} {below : List Frame} {meth : Method} {c : Code} {H : Heap} {locs : List Loc} {cells slots : Nat} {Q : State → Prop}
variable {mc ms : Nat} {free : Addr → Prop} {A0 A1 : Nat → Prop} {H0 : Heap} {a : Array Value} {ls : Array Slot} {st0 rest : List Value}
variable {Qc : Array Value → State → Outcome → State → Prop} {XC : String → State → State → Prop}
/-- what a body that may throw owes at its end -/
def vx_MQ (below : List Frame) (Qc : Array Value → State → Outcome → State → Prop) (XC : String → State → State → Prop) (a : Array Value) (s : State) (mc ms : Nat) (free : Addr → Prop) : State → Prop := fun t =>
  ∃ o, t.status = .running ∧ Ended t below o ∧ vx_Q Qc XC mc ms free a s o t
theorem vx_ret {g : JFrame} {mc ms : Nat} (k : W p l e R s m args below meth c H locs cells slots (MQ below Qc args s mc ms free) g) : W p l e R s m args below meth c H locs cells slots (vx_MQ below Qc XC args s mc ms free) g := by
  intro T hT X
  obtain ⟨t, a1, o, b1, b2, b3, b4⟩ := k T hT X
  exact ⟨t, a1, o, b1, b2, Or.inl ⟨b3, b4⟩⟩
/-- not caught here: it goes on to the caller -/
theorem vx_widen {g : JFrame} {q : Addr} {k n : Nat} (h1 : cells ≤ k) (h2 : slots ≤ n) (kk : vx_W p l e R s m args below meth c H locs k n Q g q) : vx_W p l e R s m args below meth c H locs cells slots Q g q := fun T hT X => kk T hT (stand_widen X h1 h2)
theorem vx_out {pc : Nat} {E : String} {ce : Cell} {q : Addr} {mc ms : Nat} (hout : ∀ x ∈ c.exceptionTable.toList, covers x pc = false) (hlocks : meth.locks = false) (hcell : H[q]? = some ce) (hv : ce.vm = .none) (hcl : s.vm.findClass E = some ce.cls)
    (hx : ∀ t : State, t.heap = H → s.vm.Alike t.vm → XC E s t) (hf : ∀ z ∈ locs, free z.base) (hc : cells ≤ mc) (hs : slots ≤ ms) :
    vx_W p l e R s m args below meth c H locs cells slots (vx_MQ below Qc XC args s mc ms free) (F0 m pc ls rest) q := by
  intro T hT X
  obtain ⟨st1, hrun, hend, hW, hsm⟩ := X.leaveThrown q (g := F0 m pc ls rest) rfl rfl rfl hout hlocks
  have hcell9 : (T.setFrames (.throwing q :: below)).heap[q]? = some ce := by
    show T.heap[q]? = some ce
    rw [hT]; exact hcell
  exact ⟨_, st1, .threw q, hrun, hend, Or.inr ⟨q, rfl, E, ce, locs, hx _ hT hW.alike, hcell9, hv, hcl, hW, hsm.mono hc hs, hf⟩⟩
theorem vx_frame {U : State} {k n : Nat} (h : s.sameButNew ({ U with vm := s.vm } : State) locs k n) : s.heap.size ≤ U.heap.size ∧ ∀ q : Nat, q < s.heap.size → (∀ z ∈ locs, z.base ≠ q) → U.heap[q]? = s.heap[q]? := by
  obtain ⟨-, h2, -, -, -, h6⟩ := h
  refine ⟨h2, fun q hq hz => ?_⟩
  obtain ⟨c9, e1, e2, e3, e4⟩ := h6 q _ (Array.getElem?_eq_getElem hq)
  have hs : c9.slots = (s.heap[q]).slots := Array.ext_getElem? fun i => e4 i fun hm => hz _ hm rfl
  have h9 : c9 = s.heap[q] := by
    rw [hs] at e2
    exact e2
  have e5 : U.heap[q]? = some c9 := e1
  rw [e5, h9, Array.getElem?_eq_getElem hq]
/-- the words of a throw but the four that speak of the heap -/
def vx_no (w : Cond) : Bool := decide (w ≠ .isRef (.static Bundle.tN "UNASSIGNED_STACK" Bundle.steD)) && decide (w ≠ .isRef (.static Bundle.tN "SUPPRESSED_SENTINEL" Bundle.listD)) && decide (w ≠ .laysStatic Bundle.tN "UNASSIGNED_STACK" Bundle.steD) && decide (w ≠ .laysStatic Bundle.tN "SUPPRESSED_SENTINEL" Bundle.listD)
def vx_at0 (own : String) (ic : Nat) (X : String) (names : List String) : List Cond := (Bundle.ownAtoms0 own ic X names).filter vx_no
def vx_atS (own : String) (ic : Nat) (X : String) (names : List String) : List Cond := (Bundle.ownAtoms own ic X names).filter vx_no
/-- a word that the tables alone decide, or a good one -/
def vx_ot (w : Cond) : Bool := w.onTables || goodWord w
theorem vx_ot_at {args a' : Array Value} {s U : State} {w : Cond} (hW : s.WarmedH U.vm) (hvm : s.vm = U.vm) (hg : vx_ot w = true) (h : w.before args s = true) : w.before a' U = true := by
  simp only [vx_ot, Bool.or_eq_true] at hg
  rcases hg with hg | hg
  · exact va_tabs hg hvm h
  · exact word_at hW (good_of_word hg) h
/-- a list's words: the good ones out of the method's own list, the others by premises of their own -/
theorem vx_hat {args : Array Value} {s : State} {L B : List Cond} (h1 : ∀ w ∈ L.filter goodWord, w.before args s = true) (h2 : ∀ w ∈ L.filter (fun w => !goodWord w), w ∈ B) (h3 : ∀ w ∈ B, w.before args s = true) : ∀ w ∈ L, w.before args s = true := by
  intro w hw
  by_cases g : goodWord w = true
  · exact h1 w (List.mem_filter.mpr ⟨hw, g⟩)
  · refine h3 w (h2 w (List.mem_filter.mpr ⟨hw, ?_⟩))
    show (!goodWord w) = true
    cases hgw : goodWord w
    · rfl
    · exact absurd hgw g
theorem vx_c {args : Array Value} {s : State} {w : Cond} {B : List Cond} (h : w.before args s = true) (t : ∀ w ∈ B, w.before args s = true) : ∀ w' ∈ w :: B, w'.before args s = true := fun w' h' => (List.mem_cons.mp h').elim (fun e => by rw [e]; exact h) (t w')
theorem vx_n {args : Array Value} {s : State} : ∀ w ∈ ([] : List Cond), w.before args s = true := fun _ h => nomatch h
theorem vx_own {args : Array Value} {s : State} {L : List Cond} (h1 : ∀ w ∈ L.filter vx_no, w.before args s = true)
    (hU : (Cond.isRef (.static Bundle.tN "UNASSIGNED_STACK" Bundle.steD)).before args s = true) (hN : (Cond.isRef (.static Bundle.tN "SUPPRESSED_SENTINEL" Bundle.listD)).before args s = true)
    (lU : (Cond.laysStatic Bundle.tN "UNASSIGNED_STACK" Bundle.steD).before args s = true) (lN : (Cond.laysStatic Bundle.tN "SUPPRESSED_SENTINEL" Bundle.listD).before args s = true) : ∀ w ∈ L, w.before args s = true := by
  intro w hw
  by_cases e1 : w = .isRef (.static Bundle.tN "UNASSIGNED_STACK" Bundle.steD)
  · rw [e1]; exact hU
  · by_cases e2 : w = .isRef (.static Bundle.tN "SUPPRESSED_SENTINEL" Bundle.listD)
    · rw [e2]; exact hN
    · by_cases e3 : w = .laysStatic Bundle.tN "UNASSIGNED_STACK" Bundle.steD
      · rw [e3]; exact lU
      · by_cases e4 : w = .laysStatic Bundle.tN "SUPPRESSED_SENTINEL" Bundle.listD
        · rw [e4]; exact lN
        · exact h1 w (List.mem_filter.mpr ⟨hw, by unfold vx_no; rw [decide_eq_true e1, decide_eq_true e2, decide_eq_true e3, decide_eq_true e4]; rfl⟩)
/-- where a static field lies, its class's statics cell in H -/
def vx_L (C n d : String) (A : Nat → Prop) (U : State) (H : Heap) : Prop := ∃ (c : ClassId) (k : Class) (i : Nat) (f : Field) (a : Nat) (cell : Cell), U.vm.findClass C = some c ∧ U.fieldFound? C n d = some (c, k, i, f) ∧ f.isStatic = true ∧ k.statics = some a ∧ H[a]? = some cell ∧ cell.vm.isStatics = true ∧ cell.cls = c ∧ f.slot < cell.slots.size ∧ k.staticTypes[f.slot]? = some f.type ∧ ¬ A a
theorem vx_L.moved {C n d : String} {A : Nat → Prop} {u U : State} {H : Heap} (hvm : u.vm.Alike U.vm) (h : vx_L C n d A u H) : vx_L C n d A U H := by
  obtain ⟨c, k, i, f, a, cell, h1, h2, h3, h4, h5, h6, h7, h8, h9, h10⟩ := h
  obtain ⟨k', hi', he⟩ := State.fieldFound?_setVm hvm h2
  exact ⟨c, k', i, f, a, cell, by rw [hvm.findClass]; exact h1, hi', h3, by rw [he]; exact h4, h5, h6, h7, h8, by rw [he]; exact h9, h10⟩
theorem vx_L.kept {C n d : String} {A : Nat → Prop} {U : State} {H H1 : Heap} (h : vx_L C n d A U H) (hq : ∀ a : Nat, a < H.size → ¬ A a → H1[a]? = H[a]?) : vx_L C n d A U H1 := by
  obtain ⟨c, k, i, f, a, cell, h1, h2, h3, h4, h5, h6, h7, h8, h9, h10⟩ := h
  exact ⟨c, k, i, f, a, cell, h1, h2, h3, h4, by rw [hq a (Array.getElem?_eq_some_iff.mp h5).1 h10]; exact h5, h6, h7, h8, h9, h10⟩
theorem vx_L.narrow {C n d : String} {A B : Nat → Prop} {U : State} {H : Heap} (h : vx_L C n d A U H) (hAB : ∀ q, B q → A q) : vx_L C n d B U H := by
  obtain ⟨c, k, i, f, a, cell, h1, h2, h3, h4, h5, h6, h7, h8, h9, h10⟩ := h
  exact ⟨c, k, i, f, a, cell, h1, h2, h3, h4, h5, h6, h7, h8, h9, fun z => h10 (hAB _ z)⟩
theorem vx_L.word {C n d : String} {A : Nat → Prop} {s : State} {args : Array Value} (h : vx_L C n d A s s.heap) : (Cond.laysStatic C n d).before args s = true := by
  obtain ⟨c, k, i, f, a, cell, h1, h2, h3, h4, h5, h6, h7, h8, h9, -⟩ := h
  show (Cond.laysStatic C n d).holds args s none s [] = true
  exact Cond.laysStatic_of h1 h2 h3 h4 h5 h6 h7 h8 h9
/-- .. and what it holds: null or some reference -/
def vx_Zq (C n d : String) (A : Nat → Prop) (U : State) (H : Heap) : Prop := va_Zq C n d A U H ∧ vx_L C n d A U H
theorem vx_Zq.moved {C n d : String} {A : Nat → Prop} {u U : State} {H : Heap} (hvm : u.vm.Alike U.vm) (h : vx_Zq C n d A u H) : vx_Zq C n d A U H := ⟨va_Zq.moved hvm h.1, vx_L.moved hvm h.2⟩
theorem vx_Zq.kept {C n d : String} {A : Nat → Prop} {U : State} {H H1 : Heap} (h : vx_Zq C n d A U H) (hq : ∀ a : Nat, a < H.size → ¬ A a → H1[a]? = H[a]?) : vx_Zq C n d A U H1 := ⟨va_Zq.kept h.1 hq, vx_L.kept h.2 hq⟩
theorem vx_Zq.narrow {C n d : String} {A B : Nat → Prop} {U : State} {H : Heap} (h : vx_Zq C n d A U H) (hAB : ∀ q, B q → A q) : vx_Zq C n d B U H := ⟨va_Zq.narrow h.1 hAB, vx_L.narrow h.2 hAB⟩
theorem vx_Zqof {args : Array Value} {s : State} {C n d : String} {A : Nat → Prop} (hl : (Cond.laysStatic C n d).before args s = true) (hini : (Cond.initialized C).before args s = true) (h : (Cond.isRef (.static C n d)).before args s = true) (hA : ∀ a : Nat, a < s.heap.size → ¬ A a) : vx_Zq C n d A s s.heap := by
  refine ⟨va_Zqof hl hini h hA, ?_⟩
  obtain ⟨c, k, i, f, a, cell, h1, h2, h3, h4, h5, h6, h7, h8, h9⟩ := Cond.laysStatic_spec hl
  exact ⟨c, k, i, f, a, cell, h1, h2, h3, h4, h5, h6, h7, h8, h9, hA a (Array.getElem?_eq_some_iff.mp h5).1⟩
theorem vx_isRef {C n d : String} {v : Value} {A : Nat → Prop} {s : State} {args : Array Value} (h : va_Z C n d v A s s.heap) (hv : v.isRef = true) : (Cond.isRef (.static C n d)).before args s = true := by
  obtain ⟨cf, kf, fi, f, a, cell, h1, h2, h3, h4, h5, h6, h7, -⟩ := h
  have he : (Term.static C n d).eval args s none [] s = some v := by
    simp [Term.eval, State.fieldNamed?, h1, h2, h4, h5, h6, h7]
  simp only [Cond.before, Cond.holds, Cond.value, he]
  cases v <;> simp_all [Value.isRef]
theorem vx_isRefq {C n d : String} {A : Nat → Prop} {s : State} {args : Array Value} (h : va_Zq C n d A s s.heap) : (Cond.isRef (.static C n d)).before args s = true := by
  rcases h with h | ⟨t, h⟩
  · exact vx_isRef h rfl
  · exact vx_isRef h rfl
/-- the same frame, seen from here: as if the method were called anew in this heap -/
theorem vx_rebase {T : State} (X : Stand p l e R s m args below meth c T locs cells slots) {R' : Room} (hf : R'.frames ≤ R.frames) (hl : R'.locals ≤ R.locals) (hc : cells + R'.cells ≤ R.cells) (hs : slots + R'.slots ≤ R.slots) :
    Stand p l e R' ((T.setVm s.vm).setFrames (.invoking m args :: below)) m args below meth c T [] 0 0 := by
  have htop : (T.setVm s.vm).topJava?.isSome := X.here.top
  have hF : ((T.setVm s.vm).setFrames (.invoking m args :: below)).frames = .invoking m args :: below := State.frames_setFrames _ (State.cur_lt_of_top htop)
  obtain ⟨g₀, hg0⟩ := Option.isSome_iff_exists.mp htop
  obtain ⟨r, hr⟩ := State.topJava?_eq_some.mp hg0
  have hl9 : e.platform.stackLimits (T.setVm s.vm).me = e.platform.stackLimits s.me := X.limits
  have hb9 : (T.setVm s.vm).me.stackBytes = s.me.stackBytes := X.bytes
  refine ⟨X.admits, X.cas, X.clock, hF, ?_, X.hears, X.method, X.code, X.here, X.tail, X.warmed, ?_, ?_, ?_⟩
  · have h := X.room
    have hU : ((T.setVm s.vm).setFrames (.invoking m args :: below)).localsInUse = s.localsInUse := by
      rw [State.localsInUse_invoking hF (meth := meth) (c := c) X.method X.code, State.localsInUse_invoking X.frames X.method X.code]
    simp only [State.hasRoom, Bool.and_eq_true, decide_eq_true_eq] at h ⊢
    obtain ⟨⟨⟨⟨h1, h2, h3, h4, h5, h6⟩, h7⟩, h8⟩, h9⟩ := h
    rw [X.frames, List.length_cons] at h2 h3
    have q1 := X.heapSize
    have q2 := X.used
    simp only [hF, hU, List.length_cons, State.stackLimits_setFrames, State.stackBytes_setFrames, hl9, hb9]
    refine ⟨⟨⟨⟨by omega, by omega, by omega, by omega, by omega, h6⟩, ?_⟩, ?_⟩, X.book⟩
    · show T.heap.size + R'.cells ≤ e.platform.maxCells
      omega
    · show T.slotsUsed + R'.slots ≤ e.platform.maxSlots
      omega
  · rw [State.stackLimits_setFrames]; rfl
  · rw [State.stackBytes_setFrames]; rfl
  · refine ⟨?_, Nat.le_refl _, Nat.le_refl _, ?_, ?_, fun a c9 h9 => ⟨c9, h9, rfl, rfl, fun _ _ => rfl⟩⟩
    · obtain ⟨t, ht, -⟩ := State.frames_cons hr
      show T.setVm s.vm = { ((T.setVm s.vm).setFrames (.invoking m args :: below)).setFrames (T.setVm s.vm).frames with heap := T.heap, slotsUsed := T.slotsUsed }
      rw [State.setFrames_setFrames, State.setFrames_self ht]
      rfl
    · show T.slotsUsed = T.slotsUsed + ((T.heap.toList.drop T.heap.size).map (·.slots.size)).sum
      rw [List.drop_eq_nil_of_le (Nat.le_of_eq Array.length_toList)]
      rfl
    · show ((T.heap.toList.drop T.heap.size).map (·.slots.size)).sum ≤ 0
      rw [List.drop_eq_nil_of_le (Nat.le_of_eq Array.length_toList)]
      exact Nat.le_refl _
/-- 'throw new E()': new; dup; invokespecial; athrow -/
theorem vx_throw0 {cc : ByteArray} {pc : Nat} (hexec : p.tables.exec = Jvm.exec) (hb : c.code = cc) (hl : l.stackTraces = false) {own cls : String} {names : List String} {ik ic mc ms : Nat} {A : Nat → Prop}
    (hown : s.vm.findClass own = some m.cls) (hcls : Bundle.fit cls = true) (hnames : ∀ n ∈ names, Bundle.fit n = true)
    (hk : (Cond.classLink own ik cls).before args s = true) (hini : (Cond.initialized cls).before args s = true) (hat : ∀ w ∈ vx_at0 own ic cls names, w.before args s = true)
    (hgood : ∀ w ∈ Cond.classLink own ik cls :: Cond.initialized cls :: vx_at0 own ic cls names, vx_ot w = true)
    (hU : vx_Zq Bundle.tN "UNASSIGNED_STACK" Bundle.steD A s s.heap) (hN : vx_Zq Bundle.tN "SUPPRESSED_SENTINEL" Bundle.listD A s s.heap) (hS : va_S A s.heap H locs) (hsize : ls.size = c.maxLocals)
    (d0 : decode cc pc = .ok (.new ik, 3)) (d3 : decode cc (pc + 3) = .ok (.dup, 1)) (d4 : decode cc (pc + 4) = .ok (.invokespecial ic, 3)) (d7 : decode cc (pc + 7) = .ok (.athrow, 1))
    (hout : ∀ x ∈ c.exceptionTable.toList, covers x (pc + 7) = false)
    (hRframes : names.length + 3 < R.frames) (hRlocals : (rest.map fun v => v.category).sum + (13 * (names.length + 1) + 42) ≤ R.locals) (hRcells : cells + 1 ≤ R.cells) (hRslots : slots + 6 ≤ R.slots) (hlocks : meth.locks = false)
    (hx : ∀ t : State, s.vm.Alike t.vm → H.size ≤ t.heap.size → (∀ q : Nat, q < H.size → t.heap[q]? = H[q]?) → XC cls s t)
    (hf : ∀ z ∈ locs, free z.base) (hc : cells + 1 ≤ mc) (hs : slots + 6 ≤ ms) :
    W p l e R s m args below meth c H locs cells slots (vx_MQ below Qc XC args s mc ms free) (F0 m pc ls rest) := by
  intro T hT X
  have htr : e.platform.stackTraces = false := (show e.platform.stackTraces = l.stackTraces by rw [X.admits.platform]).trans hl
  have Y := vx_rebase X (R' := { frames := R.frames, locals := R.locals, cells := 1, slots := 6 }) (Nat.le_refl _) (Nat.le_refl _) hRcells hRslots
  obtain ⟨s', hA⟩ : ∃ z, z = (T.setVm s.vm).setFrames (.invoking m args :: below) := ⟨_, rfl⟩
  rw [← hA] at Y
  have hvm : s'.vm = s.vm := by rw [hA]; rfl
  have hhp : s'.heap = H := by rw [hA]; exact hT
  have hW0 : s.WarmedH s'.vm := by rw [hvm]; exact State.WarmedH.refl s
  have hat' : ∀ w ∈ vx_at0 own ic cls names, w.before args s' = true := fun w hw => vx_ot_at hW0 hvm.symm (hgood w (List.mem_cons_of_mem _ (List.mem_cons_of_mem _ hw))) (hat w hw)
  have hk' : (Cond.classLink own ik cls).before args s' = true := vx_ot_at hW0 hvm.symm (hgood _ List.mem_cons_self) hk
  have hini' : (Cond.initialized cls).before args s' = true := vx_ot_at hW0 hvm.symm (hgood _ (List.mem_cons_of_mem _ List.mem_cons_self)) hini
  have hU' : vx_Zq Bundle.tN "UNASSIGNED_STACK" Bundle.steD A s' s'.heap := by rw [hhp]; exact vx_Zq.moved hW0.alike (hU.kept hS.2.1)
  have hN' : vx_Zq Bundle.tN "SUPPRESSED_SENTINEL" Bundle.listD A s' s'.heap := by rw [hhp]; exact vx_Zq.moved hW0.alike (hN.kept hS.2.1)
  have h : ∀ w ∈ Bundle.ownAtoms0 own ic cls names, w.before args s' = true := vx_own hat' (vx_isRefq hU'.1) (vx_isRefq hN'.1) hU'.2.word hN'.2.word
  have hown' : s'.vm.findClass own = some m.cls := by rw [hvm]; exact hown
  have hins : (Cond.instantiable cls 6).before args s' = true := h _ (by simp [Bundle.ownAtoms0])
  obtain ⟨vm₁, cX, kX, hfX, hkX, -, -, X₁, st1⟩ := Y.newCold hexec (own := own) (C := cls) (index := ik) (n := 6) hown' hk' hins hini'
    (g := F0 m pc ls rest) rfl (by rw [hb]; exact d0) (Nat.le_refl _) (Nat.le_refl _)
  generalize hT1 : (T.setVm vm₁).pushCell { cls := cX, slots := kX.instanceTypes.map defaultValue, vm := .none } = T1 at X₁ st1
  have hcat : (Value.ref T.heap.size).category = 1 := rfl
  have hcellA : T1.heap[T.heap.size]? = some (freshCell cX kX) := by rw [← hT1]; exact State.heap_pushCell_size _ _
  have d3' : decode c.code (pc + 3) = .ok (.dup, 1) := by rw [hb]; exact d3
  obtain ⟨U, hsteps, hrun, hend, hW, hsame, ce, hce, hO⟩ := X₁.ctorThrow0 hexec htr (own := own) (cls := cls) (names := names) (ic := ic) hown' hcls hnames h (fun x hx => nomatch hx) hfX hkX hcellA (by rw [hhp, hT]; exact Nat.le_refl _)
    (g := { method := m, pc := pc + 4, locals := ls, stack := .ref T.heap.size :: .ref T.heap.size :: rest, locked := none }) rfl hsize rfl rfl (rest := rest) rfl
    (by rw [hb]; exact d4) (by rw [hb]; exact d7) hout hRframes (by simp only [List.map_cons, List.sum_cons, hcat]; omega) hlocks
  obtain ⟨f1, f2⟩ := vx_frame hsame
  rw [hhp] at f1 f2
  have hWs : s.WarmedH U.vm := State.WarmedH.trans hW0 hW
  have hcl : s.vm.findClass cls = some ce.cls := by
    have h9 := hO.cls
    rw [hvm] at h9
    exact h9
  have hall : s.sameButNew ({ U with vm := s.vm } : State) locs mc ms := by
    subst hA
    obtain ⟨e1, e2⟩ := hsame
    rw [State.setFrames_setFrames] at e1
    have h2 : (T.setVm s.vm).sameButNew ({ U with vm := s.vm } : State) [] (0 + 1) (0 + 6) := ⟨e1, e2⟩
    have h3 := X.same.trans h2
    rw [List.append_nil] at h3
    exact h3.mono hc hs
  refine ⟨U, ?_, .threw T.heap.size, hrun, hend, Or.inr ⟨T.heap.size, rfl, cls, ce, locs, hx U hWs.alike f1 (fun q hq => f2 q hq (fun z hz => nomatch hz)), hce, hO.vm, hcl, hWs, hall, hf⟩⟩
  refine st1 _ ?_
  show Steps p.tables e below (T1.setTop { method := m, pc := pc + 3, locals := ls, stack := .ref T.heap.size :: rest, locked := none }) _
  jvm_step X₁.here [X₁.here.top, hexec, d3', Value.category]
  exact hsteps
/-- 'throw new E("text")': new; dup; ldc; invokespecial; athrow -/
theorem vx_throwS {cc : ByteArray} {pc : Nat} (hexec : p.tables.exec = Jvm.exec) (hb : c.code = cc) (hl : l.stackTraces = false) {own cls text : String} {names : List String} {ik is ic mc ms sa : Nat} {A : Nat → Prop}
    (hown : s.vm.findClass own = some m.cls) (hcls : Bundle.fit cls = true) (hnames : ∀ n ∈ names, Bundle.fit n = true)
    (hk : (Cond.classLink own ik cls).before args s = true) (hini : (Cond.initialized cls).before args s = true) (hstr : vk_R own is text sa s) (hat : ∀ w ∈ vx_atS own ic cls names, w.before args s = true)
    (hgood : ∀ w ∈ Cond.classLink own ik cls :: Cond.initialized cls :: vx_atS own ic cls names, vx_ot w = true)
    (hU : vx_Zq Bundle.tN "UNASSIGNED_STACK" Bundle.steD A s s.heap) (hN : vx_Zq Bundle.tN "SUPPRESSED_SENTINEL" Bundle.listD A s s.heap) (hS : va_S A s.heap H locs) (hsize : ls.size = c.maxLocals)
    (d0 : decode cc pc = .ok (.new ik, 3)) (d3 : decode cc (pc + 3) = .ok (.dup, 1)) (d4 : decode cc (pc + 4) = .ok (.ldc is, 2)) (d6 : decode cc (pc + 6) = .ok (.invokespecial ic, 3)) (d9 : decode cc (pc + 9) = .ok (.athrow, 1))
    (hout : ∀ x ∈ c.exceptionTable.toList, covers x (pc + 9) = false)
    (hRframes : names.length + 3 < R.frames) (hRlocals : (rest.map fun v => v.category).sum + (13 * (names.length + 1) + 43) ≤ R.locals) (hRcells : cells + 1 ≤ R.cells) (hRslots : slots + 6 ≤ R.slots) (hlocks : meth.locks = false)
    (hx : ∀ t : State, s.vm.Alike t.vm → H.size ≤ t.heap.size → (∀ q : Nat, q < H.size → t.heap[q]? = H[q]?) → XC cls s t)
    (hf : ∀ z ∈ locs, free z.base) (hc : cells + 1 ≤ mc) (hs : slots + 6 ≤ ms) :
    W p l e R s m args below meth c H locs cells slots (vx_MQ below Qc XC args s mc ms free) (F0 m pc ls rest) := by
  intro T hT X
  have htr : e.platform.stackTraces = false := (show e.platform.stackTraces = l.stackTraces by rw [X.admits.platform]).trans hl
  have Y := vx_rebase X (R' := { frames := R.frames, locals := R.locals, cells := 1, slots := 6 }) (Nat.le_refl _) (Nat.le_refl _) hRcells hRslots
  obtain ⟨s', hA⟩ : ∃ z, z = (T.setVm s.vm).setFrames (.invoking m args :: below) := ⟨_, rfl⟩
  rw [← hA] at Y
  have hvm : s'.vm = s.vm := by rw [hA]; rfl
  have hhp : s'.heap = H := by rw [hA]; exact hT
  have hW0 : s.WarmedH s'.vm := by rw [hvm]; exact State.WarmedH.refl s
  have hat' : ∀ w ∈ vx_atS own ic cls names, w.before args s' = true := fun w hw => vx_ot_at hW0 hvm.symm (hgood w (List.mem_cons_of_mem _ (List.mem_cons_of_mem _ hw))) (hat w hw)
  have hk' : (Cond.classLink own ik cls).before args s' = true := vx_ot_at hW0 hvm.symm (hgood _ List.mem_cons_self) hk
  have hini' : (Cond.initialized cls).before args s' = true := vx_ot_at hW0 hvm.symm (hgood _ (List.mem_cons_of_mem _ List.mem_cons_self)) hini
  have hU' : vx_Zq Bundle.tN "UNASSIGNED_STACK" Bundle.steD A s' s'.heap := by rw [hhp]; exact vx_Zq.moved hW0.alike (hU.kept hS.2.1)
  have hN' : vx_Zq Bundle.tN "SUPPRESSED_SENTINEL" Bundle.listD A s' s'.heap := by rw [hhp]; exact vx_Zq.moved hW0.alike (hN.kept hS.2.1)
  have h : ∀ w ∈ Bundle.ownAtoms own ic cls names, w.before args s' = true := vx_own hat' (vx_isRefq hU'.1) (vx_isRefq hN'.1) hU'.2.word hN'.2.word
  have hown' : s'.vm.findClass own = some m.cls := by rw [hvm]; exact hown
  have hins : (Cond.instantiable cls 6).before args s' = true := h _ (by simp [Bundle.ownAtoms])
  obtain ⟨vm₁, cX, kX, hfX, hkX, -, -, X₁, st1⟩ := Y.newCold hexec (own := own) (C := cls) (index := ik) (n := 6) hown' hk' hins hini'
    (g := F0 m pc ls rest) rfl (by rw [hb]; exact d0) (Nat.le_refl _) (Nat.le_refl _)
  generalize hT1 : (T.setVm vm₁).pushCell { cls := cX, slots := kX.instanceTypes.map defaultValue, vm := .none } = T1 at X₁ st1
  have hcat : (Value.ref T.heap.size).category = 1 := rfl
  have hcellA : T1.heap[T.heap.size]? = some (freshCell cX kX) := by rw [← hT1]; exact State.heap_pushCell_size _ _
  have d3' : decode c.code (pc + 3) = .ok (.dup, 1) := by rw [hb]; exact d3
  have d4' : decode c.code (pc + 4) = .ok (.ldc is, 2) := by rw [hb]; exact d4
  have hstr' : vk_R own is text sa s' := vk_R.warm hW0 hstr
  obtain ⟨U, hsteps, hrun, hend, hW, hsame, ce, hce, hO⟩ := X₁.ctorThrowS hexec htr (own := own) (cls := cls) (names := names) (ic := ic) hown' hcls hnames h (fun x hx => nomatch hx) hfX hkX hcellA (by rw [hhp, hT]; exact Nat.le_refl _) (msg := .ref sa) rfl
    (g := { method := m, pc := pc + 6, locals := ls, stack := .ref sa :: .ref T.heap.size :: .ref T.heap.size :: rest, locked := none }) rfl hsize rfl rfl (rest := rest) rfl
    (by rw [hb]; exact d6) (by rw [hb]; exact d9) hout hRframes (by simp only [List.map_cons, List.sum_cons, hcat]; omega) hlocks
  obtain ⟨f1, f2⟩ := vx_frame hsame
  rw [hhp] at f1 f2
  have hWs : s.WarmedH U.vm := State.WarmedH.trans hW0 hW
  have hcl : s.vm.findClass cls = some ce.cls := by
    have h9 := hO.cls
    rw [hvm] at h9
    exact h9
  have hall : s.sameButNew ({ U with vm := s.vm } : State) locs mc ms := by
    subst hA
    obtain ⟨e1, e2⟩ := hsame
    rw [State.setFrames_setFrames] at e1
    have h2 : (T.setVm s.vm).sameButNew ({ U with vm := s.vm } : State) [] (0 + 1) (0 + 6) := ⟨e1, e2⟩
    have h3 := X.same.trans h2
    rw [List.append_nil] at h3
    exact h3.mono hc hs
  refine ⟨U, ?_, .threw T.heap.size, hrun, hend, Or.inr ⟨T.heap.size, rfl, cls, ce, locs, hx U hWs.alike f1 (fun q hq => f2 q hq (fun z hz => nomatch hz)), hce, hO.vm, hcl, hWs, hall, hf⟩⟩
  refine st1 _ ?_
  show Steps p.tables e below (T1.setTop { method := m, pc := pc + 3, locals := ls, stack := .ref T.heap.size :: rest, locked := none }) _
  jvm_step X₁.here [X₁.here.top, hexec, d3', Value.category]
  exact X₁.ldcString hexec (own := own) (text := text) (index := is) (a := sa) hown' hstr'.1 hstr'.2
    (g := { method := m, pc := pc + 4, locals := ls, stack := .ref T.heap.size :: .ref T.heap.size :: rest, locked := none }) rfl d4' _ hsteps
/-- 'throw new E("text")', the text by a wide index -/
theorem vx_throwSW {cc : ByteArray} {pc : Nat} (hexec : p.tables.exec = Jvm.exec) (hb : c.code = cc) (hl : l.stackTraces = false) {own cls text : String} {names : List String} {ik is ic mc ms sa : Nat} {A : Nat → Prop}
    (hown : s.vm.findClass own = some m.cls) (hcls : Bundle.fit cls = true) (hnames : ∀ n ∈ names, Bundle.fit n = true)
    (hk : (Cond.classLink own ik cls).before args s = true) (hini : (Cond.initialized cls).before args s = true) (hstr : vk_R own is text sa s) (hat : ∀ w ∈ vx_atS own ic cls names, w.before args s = true)
    (hgood : ∀ w ∈ Cond.classLink own ik cls :: Cond.initialized cls :: vx_atS own ic cls names, vx_ot w = true)
    (hU : vx_Zq Bundle.tN "UNASSIGNED_STACK" Bundle.steD A s s.heap) (hN : vx_Zq Bundle.tN "SUPPRESSED_SENTINEL" Bundle.listD A s s.heap) (hS : va_S A s.heap H locs) (hsize : ls.size = c.maxLocals)
    (d0 : decode cc pc = .ok (.new ik, 3)) (d3 : decode cc (pc + 3) = .ok (.dup, 1)) (d4 : decode cc (pc + 4) = .ok (.ldc_w is, 3)) (d7 : decode cc (pc + 7) = .ok (.invokespecial ic, 3)) (d10 : decode cc (pc + 10) = .ok (.athrow, 1))
    (hout : ∀ x ∈ c.exceptionTable.toList, covers x (pc + 10) = false)
    (hRframes : names.length + 3 < R.frames) (hRlocals : (rest.map fun v => v.category).sum + (13 * (names.length + 1) + 43) ≤ R.locals) (hRcells : cells + 1 ≤ R.cells) (hRslots : slots + 6 ≤ R.slots) (hlocks : meth.locks = false)
    (hx : ∀ t : State, s.vm.Alike t.vm → H.size ≤ t.heap.size → (∀ q : Nat, q < H.size → t.heap[q]? = H[q]?) → XC cls s t)
    (hf : ∀ z ∈ locs, free z.base) (hc : cells + 1 ≤ mc) (hs : slots + 6 ≤ ms) :
    W p l e R s m args below meth c H locs cells slots (vx_MQ below Qc XC args s mc ms free) (F0 m pc ls rest) := by
  intro T hT X
  have htr : e.platform.stackTraces = false := (show e.platform.stackTraces = l.stackTraces by rw [X.admits.platform]).trans hl
  have Y := vx_rebase X (R' := { frames := R.frames, locals := R.locals, cells := 1, slots := 6 }) (Nat.le_refl _) (Nat.le_refl _) hRcells hRslots
  obtain ⟨s', hA⟩ : ∃ z, z = (T.setVm s.vm).setFrames (.invoking m args :: below) := ⟨_, rfl⟩
  rw [← hA] at Y
  have hvm : s'.vm = s.vm := by rw [hA]; rfl
  have hhp : s'.heap = H := by rw [hA]; exact hT
  have hW0 : s.WarmedH s'.vm := by rw [hvm]; exact State.WarmedH.refl s
  have hat' : ∀ w ∈ vx_atS own ic cls names, w.before args s' = true := fun w hw => vx_ot_at hW0 hvm.symm (hgood w (List.mem_cons_of_mem _ (List.mem_cons_of_mem _ hw))) (hat w hw)
  have hk' : (Cond.classLink own ik cls).before args s' = true := vx_ot_at hW0 hvm.symm (hgood _ List.mem_cons_self) hk
  have hini' : (Cond.initialized cls).before args s' = true := vx_ot_at hW0 hvm.symm (hgood _ (List.mem_cons_of_mem _ List.mem_cons_self)) hini
  have hU' : vx_Zq Bundle.tN "UNASSIGNED_STACK" Bundle.steD A s' s'.heap := by rw [hhp]; exact vx_Zq.moved hW0.alike (hU.kept hS.2.1)
  have hN' : vx_Zq Bundle.tN "SUPPRESSED_SENTINEL" Bundle.listD A s' s'.heap := by rw [hhp]; exact vx_Zq.moved hW0.alike (hN.kept hS.2.1)
  have h : ∀ w ∈ Bundle.ownAtoms own ic cls names, w.before args s' = true := vx_own hat' (vx_isRefq hU'.1) (vx_isRefq hN'.1) hU'.2.word hN'.2.word
  have hown' : s'.vm.findClass own = some m.cls := by rw [hvm]; exact hown
  have hins : (Cond.instantiable cls 6).before args s' = true := h _ (by simp [Bundle.ownAtoms])
  obtain ⟨vm₁, cX, kX, hfX, hkX, -, -, X₁, st1⟩ := Y.newCold hexec (own := own) (C := cls) (index := ik) (n := 6) hown' hk' hins hini'
    (g := F0 m pc ls rest) rfl (by rw [hb]; exact d0) (Nat.le_refl _) (Nat.le_refl _)
  generalize hT1 : (T.setVm vm₁).pushCell { cls := cX, slots := kX.instanceTypes.map defaultValue, vm := .none } = T1 at X₁ st1
  have hcat : (Value.ref T.heap.size).category = 1 := rfl
  have hcellA : T1.heap[T.heap.size]? = some (freshCell cX kX) := by rw [← hT1]; exact State.heap_pushCell_size _ _
  have d3' : decode c.code (pc + 3) = .ok (.dup, 1) := by rw [hb]; exact d3
  have d4' : decode c.code (pc + 4) = .ok (.ldc_w is, 3) := by rw [hb]; exact d4
  have hstr' : vk_R own is text sa s' := vk_R.warm hW0 hstr
  obtain ⟨U, hsteps, hrun, hend, hW, hsame, ce, hce, hO⟩ := X₁.ctorThrowS hexec htr (own := own) (cls := cls) (names := names) (ic := ic) hown' hcls hnames h (fun x hx => nomatch hx) hfX hkX hcellA (by rw [hhp, hT]; exact Nat.le_refl _) (msg := .ref sa) rfl
    (g := { method := m, pc := pc + 7, locals := ls, stack := .ref sa :: .ref T.heap.size :: .ref T.heap.size :: rest, locked := none }) rfl hsize rfl rfl (rest := rest) rfl
    (by rw [hb]; exact d7) (by rw [hb]; exact d10) hout hRframes (by simp only [List.map_cons, List.sum_cons, hcat]; omega) hlocks
  obtain ⟨f1, f2⟩ := vx_frame hsame
  rw [hhp] at f1 f2
  have hWs : s.WarmedH U.vm := State.WarmedH.trans hW0 hW
  have hcl : s.vm.findClass cls = some ce.cls := by
    have h9 := hO.cls
    rw [hvm] at h9
    exact h9
  have hall : s.sameButNew ({ U with vm := s.vm } : State) locs mc ms := by
    subst hA
    obtain ⟨e1, e2⟩ := hsame
    rw [State.setFrames_setFrames] at e1
    have h2 : (T.setVm s.vm).sameButNew ({ U with vm := s.vm } : State) [] (0 + 1) (0 + 6) := ⟨e1, e2⟩
    have h3 := X.same.trans h2
    rw [List.append_nil] at h3
    exact h3.mono hc hs
  refine ⟨U, ?_, .threw T.heap.size, hrun, hend, Or.inr ⟨T.heap.size, rfl, cls, ce, locs, hx U hWs.alike f1 (fun q hq => f2 q hq (fun z hz => nomatch hz)), hce, hO.vm, hcl, hWs, hall, hf⟩⟩
  refine st1 _ ?_
  show Steps p.tables e below (T1.setTop { method := m, pc := pc + 3, locals := ls, stack := .ref T.heap.size :: rest, locked := none }) _
  jvm_step X₁.here [X₁.here.top, hexec, d3', Value.category]
  exact X₁.ldcStringW hexec (own := own) (text := text) (index := is) (a := sa) hown' hstr'.1 hstr'.2
    (g := { method := m, pc := pc + 4, locals := ls, stack := .ref T.heap.size :: .ref T.heap.size :: rest, locked := none }) rfl d4' _ hsteps
end Ends
section Bodies
variable {l : Launch}
theorem vx_ofW {y : MethodName} {ws ws' : List Cond} {rm : Room} {Pc : Array Value → State → Prop} {Qc : Array Value → State → Outcome → State → Prop} {XC : String → State → State → Prop} {mc ms : Nat} {free : Addr → Prop} {cc : ByteArray} {maxL : Nat} {ret : Option FieldType}
    (hy : plainName y.cls = true) (hw : ws = Cond.code y cc maxL ret :: ws')
    (body : ∀ p e s m args below meth c s₁, BodyLoose p l y (headSpec ws rm) cc maxL ret e s m args below meth c s₁ → c.maxLocals = maxL → (∀ x ∈ c.exceptionTable.toList, False) → Pc args s →
      W p l e (headSpec ws rm).room s m args below meth c s.heap [] 0 0 (vx_MQ below Qc XC args s mc ms free) (entryFrame m args maxL)) : vx_Met l y ws rm Pc Qc XC mc ms free := by
  refine MetFree.of_bodyS (code := cc) (maxLocals := maxL) (ret := ret) hy ?_ ?_
  · intro args s m h hn
    obtain ⟨meth, c, h1, h2, h3, h4, h5, h6, -, -⟩ := Cond.code_spec hn (atoms_spec (ws := ws) h _ (by rw [hw]; exact List.mem_cons_self))
    exact ⟨meth, c, h1, h2, h3, h4, h5, h6⟩
  · intro p e s m args below meth c s₁ B hml hP _
    have hh0 : s₁.heap = s.heap := by rw [B.state]; rfl
    have ht : ∀ x ∈ c.exceptionTable.toList, False := by
      obtain ⟨meth9, c9, h1, h2, -, -, -, -, h7, -⟩ := Cond.code_spec B.named (atoms_spec (ws := ws) B.pre _ (by rw [hw]; exact List.mem_cons_self))
      cases Option.some.inj (h1.symm.trans B.method)
      cases Option.some.inj (h2.symm.trans (Stand.of_body B).code)
      intro x hx
      rw [Array.isEmpty_iff.mp h7] at hx
      cases hx
    obtain ⟨t, a1, o, b1, b2, b3⟩ := body p e s m args below meth c s₁ B hml ht hP s₁ hh0 (Stand.of_body B)
    exact ⟨t, o, a1, b1, b2, b3⟩
/-- the table of a body with handlers -/
theorem vx_table {p : Program} {x y : MethodName} {S : Spec} {cc bytes : ByteArray} {maxL maxL' : Nat} {ret ret' : Option FieldType} {e : Env} {s s₁ : State} {m : MethodId} {args : Array Value} {below : List Frame} {meth : Method} {c : Code} {hh : List (Nat × Nat × Nat × Nat)}
    (B : BodyLoose p l y S cc maxL ret e s m args below meth c s₁) (h : (Cond.codeWith y bytes maxL' ret' hh).before args s = true) : c.exceptionTable.toList = tableOf hh := by
  obtain ⟨m9, meth9, c9, hn9, h1, h2, -, -, h6, -⟩ := Cond.codeWith_spec h
  cases Option.some.inj (hn9.symm.trans B.named)
  cases Option.some.inj (h1.symm.trans B.method)
  cases Option.some.inj (h2.symm.trans (Stand.of_body B).code)
  rw [← h6, table_eq]
end Bodies
end VXA
/-! ===== END ===== -/
/-! ===== BEGIN a static call of a method with an exception table ===== -/
section VXS
variable {p : Program} {l : Launch} {e : Env} {R : Room} {s : State} {m : MethodId} {args : Array Value} {below : List Frame} {meth : Method} {c : Code} {T : State} {H : Heap} {locs : List Loc} {cells slots : Nat}
abbrev vx_CSW (R : Room) (s : State) (args : Array Value) (own : String) (index : Nat) (y : MethodName) (bytes : ByteArray) (maxL : Nat) (ret : Option FieldType) (hh : List (Nat × Nat × Nat × Nat)) (ws : List Cond) (rm : Room) (mc ms n : Nat) : Prop :=
  (rm.cells = mc ∧ rm.slots = ms ∧ rm.frames + 1 ≤ R.frames ∧ 8 + (maxL + 11) + rm.locals ≤ R.locals ∧ (∀ w ∈ ws, ∀ (a' : Array Value) (U : State), s.WarmedH U.vm → w.before a' U = true) ∧ Cond.codeWith y bytes maxL ret hh ∈ ws) ∧
  (Cond.codeWith y bytes maxL ret hh).before args s = true ∧ (Cond.initialized y.cls).before args s = true ∧ (y.cls ≠ "java/lang/invoke/MethodHandle" ∧ y.cls ≠ "java/lang/invoke/VarHandle") ∧
  (∀ sig, parseMethodDescriptor y.desc = some sig → n = sig.parameters.length) ∧ (Cond.methodLink own index y).before args s = true ∧ (Cond.static y).before args s = true
theorem vx_cwSW {own : String} {index maxL mc ms : Nat} {y : MethodName} {bytes : ByteArray} {ret : Option FieldType} {hh : List (Nat × Nat × Nat × Nat)} {Ts ws ws' : List Cond} {rm : Room} (n : Nat) (ht : ∀ w ∈ Ts, w.before args s = true) (hT : GoodIn Ts (va_wsS own index y ws)) (hw : ws = Cond.codeWith y bytes maxL ret hh :: ws') (hrc : rm.cells = mc) (hrs : rm.slots = ms)
    (hd : y.cls ≠ "java/lang/invoke/MethodHandle" ∧ y.cls ≠ "java/lang/invoke/VarHandle" ∧ (parseMethodDescriptor y.desc).map (fun d => d.parameters.length) = some n) (hR : rm.frames + 1 ≤ R.frames ∧ 8 + (maxL + 11) + rm.locals ≤ R.locals) :
    vx_CSW R s args own index y bytes maxL ret hh ws rm mc ms n := by
  have ok : ∀ w ∈ va_wsS own index y ws, w.before args s = true := fun w h => ht w (hT w h).1
  have hG : GoodIn Ts ws := fun w h => hT w (by unfold va_wsS; exact List.mem_append_right _ h)
  have hc : Cond.codeWith y bytes maxL ret hh ∈ ws := by rw [hw]; exact List.mem_cons_self
  refine ⟨⟨hrc, hrs, hR.1, hR.2, pay_in ht hG, hc⟩, ht _ (hG _ hc).1, ok _ (by simp [va_wsS]), ⟨hd.1, hd.2.1⟩, fun sig h => ?_, ok _ (by simp [va_wsS]), ok _ (by simp [va_wsS])⟩
  have h2 := hd.2.2
  rw [h] at h2
  exact (Option.some.inj h2).symm
theorem vx_callSW (X : Stand p l e R s m args below meth c T locs cells slots) (hexec : p.tables.exec = Jvm.exec) {own : String} {index : Nat} {y : MethodName} {bytes : ByteArray} {maxL : Nat} {ret : Option FieldType} {hh : List (Nat × Nat × Nat × Nat)}
    (hown : s.vm.findClass own = some m.cls) (hlink : (Cond.methodLink own index y).before args s = true) (hstat : (Cond.static y).before args s = true) (hinit : (Cond.initialized y.cls).before args s = true)
    (hcode : (Cond.codeWith y bytes maxL ret hh).before args s = true) (hy : y.cls ≠ "java/lang/invoke/MethodHandle" ∧ y.cls ≠ "java/lang/invoke/VarHandle")
    {W9 : Nat} {Pre : Pt → Array Value → Prop} {Post : Pt → Array Value → Option Value → Pt → Prop} (hK : Back l R p e below s args y 3 W9 Pre Post)
    {g : JFrame} (hg : g.method = m) (hsize : g.locals.size = c.maxLocals) {argsL rest : List Value} (hlen : ∀ sig, parseMethodDescriptor y.desc = some sig → argsL.length = sig.parameters.length)
    (hstack : g.stack = argsL.reverse ++ rest) (hW : 2 * g.monitorRoom + (rest.map fun v => v.category).sum ≤ W9) (hdg : decode c.code g.pc = .ok (.invokestatic index, 3))
    (hpre : ∀ vm₁, s.WarmedH vm₁ → Pre ⟨T.setVm vm₁, locs, cells, slots⟩ argsL.toArray) :
    ∃ (v : Option Value) (vm₁ : Vm) (B : Pt), s.WarmedH vm₁ ∧ Stand p l e R s m args below meth c B.U B.locs B.cells B.slots ∧ Post ⟨T.setVm vm₁, locs, cells, slots⟩ argsL.toArray v B ∧
      ∀ target, Steps p.tables e below (B.U.setTop { g with pc := g.pc + 3, stack := v.toList ++ rest }) target → Steps p.tables e below (T.setTop g) target := by
  obtain ⟨mk, methM, cM, hnamed, hmethM, -, -, -, -, -, -, hsigM⟩ := Cond.codeWith_spec hcode
  have hstatic : methM.isStatic = true := Cond.static_spec hnamed hmethM hstat
  obtain ⟨kP, hkP, -⟩ := className_of_methodNamed hnamed
  have hinitP : kP.init = .initialized := Cond.initialized_spec (findClass_of_methodNamed hnamed) hkP hinit
  obtain ⟨vm₁, X₁, hstep₁⟩ := X.invokestatic hexec hown hlink hnamed hmethM hstatic hkP hinitP hy (g := g) hg (argsL := argsL) (rest := rest) (hlen _ hsigM) hstack hdg
  obtain ⟨v, B, X', hpost, hsteps⟩ := hK m meth c ⟨T.setVm vm₁, locs, cells, slots⟩ { g with stack := rest } (.invokestatic index) mk argsL.toArray X₁ hg hsize hdg hW (X₁.named hnamed) (hpre vm₁ X₁.warmed)
  exact ⟨v, vm₁, B, X₁.warmed, X', hpost, fun target h => hstep₁ _ fun acts => by rw [doInvoke_state]; exact hsteps.trans h⟩
theorem vx_runSW {y : MethodName} {bytes cc : ByteArray} {maxL nL mc ms n index : Nat} {ret : Option FieldType} {hh : List (Nat × Nat × Nat × Nat)} {ws : List Cond} {rm : Room} {Pc : Array Value → State → Prop} {Qc : Array Value → State → Outcome → State → Prop} {free : Addr → Prop} {Ts : List Cond} {own : String} {As rest : List Value} {g : JFrame}
    (S : CallFix p m c cc nL s args Ts own) (hM : Met l y ws rm Pc Qc mc ms free) (cw : vx_CSW R s args own index y bytes maxL ret hh ws rm mc ms n) (hp : PreS s H Pc As)
    (hg : g.method = m) (hn : As.length = n) (hsize : g.locals.size = nL) (hstack : g.stack = As.reverse ++ rest) (hW : 2 * g.monitorRoom + (rest.map fun v => v.category).sum ≤ 8) (hdg : decode cc g.pc = .ok (.invokestatic index, 3)) (hf : cells + mc ≤ R.cells ∧ slots + ms ≤ R.slots) :
    va_Run p l e R s m args below meth c H locs cells slots mc ms g rest (Qc As.toArray) (free) := by
  obtain ⟨⟨hrc, hrs, hfr, hlo, hws, hcw⟩, hcode, hini, hy, hlen, hl, hstt⟩ := cw
  have hK : Back l R p e below s args y 3 8 (PreOf R mc ms Pc) (PostOf Qc mc ms free) := va_backW (hh := hh) (bytes := bytes) (maxL := maxL) (ret := ret) hM hp.1 hrc hrs hfr hlo hws hcw (fun a' U hW => word_at hW (Or.inl (by first | rfl | simp [Cond.onTables, Cond.keeps, Cond.steady])) hini)
  obtain ⟨hx, hb, hml, ho, -⟩ := S
  intro T hT X
  obtain ⟨v, vm₁, ⟨U', l2, c2, s2⟩, hW₁, X', ⟨g', mk, t, L, e1, e2, hq, h1, hL, h2, h3⟩, st⟩ := vx_callSW X hx (hh := hh) (bytes := bytes) (maxL := maxL) (ret := ret) ho hl hstt hini hcode hy hK hg (hsize.trans hml.symm) (argsL := As) (rest := rest) (fun sig h => hn.trans (hlen sig h)) hstack hW (by rw [hb]; exact hdg)
    (fun vm₁ hW₁ => ⟨hf.1, hf.2, hp.2 (T.setVm vm₁) hT hW₁⟩)
  dsimp only [Pt.U, Pt.locs, Pt.cells, Pt.slots] at X' e1 e2 h1 h2 h3 st
  subst h1; subst h2; subst h3
  exact ⟨v, (T.setVm vm₁).calling g' mk As.toArray, t, U', L, hT, X', hL, e1, e2, hq, st⟩
/-- not caught here, past rows that name other classes: it goes on to the caller -/
theorem vx_outP {p : Program} {l : Launch} {e : Env} {R : Room} {s : State} {m : MethodId} {args : Array Value} {below : List Frame} {meth : Method} {c : Code} {H : Heap} {locs : List Loc} {cells slots : Nat} {free : Addr → Prop} {ls : Array Slot} {rest : List Value} {Qc : Array Value → State → Outcome → State → Prop} {XC : String → State → State → Prop}
    {pc : Nat} {own E : String} {ce : Cell} {q : Addr} {mc ms : Nat} (hown : s.vm.findClass own = some m.cls) (hlocks : meth.locks = false)
    (hpass : ∀ z ∈ c.exceptionTable.toList, covers z pc = false ∨ (z.catchType ≠ 0 ∧ ∃ nm : String, (Cond.classLink own z.catchType nm).before args s = true ∧ va_Nc E nm s)) (hcell : H[q]? = some ce) (hv : ce.vm = .none) (hcl : s.vm.findClass E = some ce.cls)
    (hx : ∀ t : State, t.heap = H → s.vm.Alike t.vm → XC E s t) (hf : ∀ z ∈ locs, free z.base) (hc : cells ≤ mc) (hs : slots ≤ ms) :
    vx_W p l e R s m args below meth c H locs cells slots (vx_MQ below Qc XC args s mc ms free) (F0 m pc ls rest) q := by
  intro T hT X
  have hpl : e.platform.magicAccessors = ({} : Platform).magicAccessors := by rw [X.admits.platform]
  obtain ⟨vm', hW', X', st⟩ := X.outThrough hlocks q (g := F0 m pc ls rest) rfl rfl rfl (cell := ce) (by rw [hT]; exact hcell) (by rw [hv]; rfl)
    (by obtain ⟨k9, h9, -⟩ := Vm.findClass_spec hcl; exact ⟨k9, h9⟩) (fun z hz => by
      rcases hpass z hz with h | ⟨hz0, nm, hl1, hn1⟩
      · exact Or.inl h
      · obtain ⟨c6, hc6, hcl6⟩ := Cond.classLink_spec hown hl1 e.platform hpl
        obtain ⟨a8, b8, h1, h2, h3⟩ := hn1
        cases Option.some.inj (h1.symm.trans hcl)
        cases Option.some.inj (h2.symm.trans hc6)
        exact Or.inr ⟨hz0, _, hcl6, h3⟩)
  obtain ⟨g₀, hfr⟩ := X'.frames_eq
  have hcell9 : ((T.setVm vm').setFrames (.throwing q :: below)).heap[q]? = some ce := by
    show T.heap[q]? = some ce
    rw [hT]; exact hcell
  have hend : Ended ((T.setVm vm').setFrames (.throwing q :: below)) below (.threw q) := State.frames_setFrames _ (State.cur_lt_of_frames hfr)
  refine ⟨(T.setVm vm').setFrames (.throwing q :: below), ?_, .threw q, X'.here.running, hend, Or.inr ⟨q, rfl, E, ce, locs, hx _ hT (X'.ends _).1.alike, hcell9, hv, hcl, (X'.ends _).1, (X'.ends _).2.mono hc hs, hf⟩⟩
  rw [X.pushThrowing_eq]
  exact st
/-- a thing of a world lies in the heap -/
theorem vx_lt {D : va_G} {cl : List vw_C} {ws : va_W} {H1 : Heap} (h : va_P D cl ws H1) {k : Nat} {q : Nat × va_E} (hk : ws[k]? = some q) : q.1 < H1.size := (h k q hk).lt
end VXS
/-! ===== END ===== -/
/-! ===== BEGIN methods with a table of their own: called by a name, returning or throwing ===== -/
section VXH
/-! vx_backW, vx_callVX, vx_callSX, vx_callVW, vx_runVW, vx_runVX, vx_runSX, vx_ofWH follow the same proofs as their sisters above (Free/Laws.lean, Shelf42/LK1.lean); vx_outP calls Shelf42/NT130.lean (outThrough). -/
section
variable {l : Launch} {R : Room} {p : Program} {e : Env} {below : List Frame} {s : State} {sargs : Array Value} {y : MethodName} {len W9 : Nat}
theorem vx_backW {ws : List Cond} {rm : Room} {Pc : Array Value → State → Prop} {Qc : Array Value → State → Outcome → State → Prop} {XC : String → State → State → Prop} {mc ms : Nat} {free : Addr → Prop} {bytes : ByteArray} {maxL : Nat} {ret : Option FieldType} {hh : List (Nat × Nat × Nat × Nat)}
    (hM : vx_Met l y ws rm Pc Qc XC mc ms free) (hblind : FrameBlind Pc) (hrc : rm.cells = mc) (hrs : rm.slots = ms)
    (hframes : rm.frames + 1 ≤ R.frames) (hlocals : W9 + (maxL + 11) + rm.locals ≤ R.locals)
    (hws : ∀ w ∈ ws, ∀ a' U, s.WarmedH U.vm → w.before a' U = true) (hcode : Cond.codeWith y bytes maxL ret hh ∈ ws) (hinit : ∀ a' U, s.WarmedH U.vm → (Cond.initialized y.cls).before a' U = true) :
    vx_Back l R p e below s sargs y len W9 (PreOf R mc ms Pc) (PostOf Qc mc ms free) (vx_Post XC mc ms free) := by
  intro m meth c A g ig mk a X hg hsize hdg hW hn hp
  have h1 : (headSpec ws rm).pre.before a A.U = true := atoms_intro fun w hw => hws w hw _ _ X.warmed
  have h2 : (Cond.codeWith y bytes maxL ret hh).before a A.U = true := hws _ hcode _ _ X.warmed
  have h3 : (Cond.initialized y.cls).before a A.U = true := hinit _ _ X.warmed
  have h4 : A.cells + (headSpec ws rm).room.cells ≤ R.cells := by rw [show (headSpec ws rm).room.cells = mc from hrc]; exact hp.1
  have h5 : A.slots + (headSpec ws rm).room.slots ≤ R.slots := by rw [show (headSpec ws rm).room.slots = ms from hrs]; exact hp.2.1
  have hPc : Pc a (A.U.calling g mk a) := hblind _ _ _ _ hp.2.2
  obtain ⟨U, Ls, c0, s0⟩ := A
  dsimp only [Pt.U, Pt.locs, Pt.cells, Pt.slots] at h1 h2 h3 h4 h5 X hn hPc ⊢
  obtain ⟨m9, methY, cY, hn9, hmY, hcY, -, hlY, -⟩ := Cond.codeWith_spec h2
  cases Option.some.inj (hn9.symm.trans hn)
  obtain ⟨kY, hkY, -⟩ := className_of_methodNamed hn
  have hinitY : kY.init = .initialized := Cond.initialized_spec (findClass_of_methodNamed hn) hkY h3
  have h : At U g.method c below := by rw [hg]; exact X.here
  have hlocals9 : W9 + (maxL + 11) + (headSpec ws rm).room.locals ≤ R.locals := hlocals
  have happ : (headSpec ws rm).appliesLoose y e.platform (U.calling g mk a) = true :=
    Spec.appliesLoose_calling (g := g) h hdg hn hkY hinitY
      (X.room_calling (g := g) (R' := (headSpec ws rm).room) hsize hmY hcY hframes (by rw [hlY]; omega) h4 h5) h1
  obtain ⟨mid, hmid⟩ := h.above
  have hfr : (U.setTop g).frames = (.java g :: mid) ++ below := by rw [State.frames_setTop' g h.top, hmid]; rfl
  obtain ⟨o, s₂, hsteps, -, hend, hq⟩ := Steps.callFree hM p X.admits X.cas X.clock (acts := []) hfr happ hPc trivial
  have hq' : vx_Q Qc XC mc ms free a (U.calling g mk a) o s₂ := hq
  rw [State.frames_setTop' g h.top] at hend
  obtain ⟨g₀, hg0⟩ := Option.isSome_iff_exists.mp h.top
  obtain ⟨r, hr⟩ := State.topJava?_eq_some.mp hg0
  have hr' : (({ U with heap := s₂.heap, slotsUsed := s₂.slotsUsed } : State).setVm s₂.vm).frames = .java g₀ :: r := hr
  rcases hq' with ⟨hqc, L, hfe, hL⟩ | ⟨q, rfl, E, ce, L, hx, hce, hcv, hcl, hW₂, hsm, hL⟩
  · obtain ⟨⟨v, rfl⟩, hW₂, e2, q2, q3, q4, q5, q6⟩ := id hfe
    have e3 : s₂ = ({ (U.calling g mk a).setFrames s₂.frames with heap := s₂.heap, slotsUsed := s₂.slotsUsed } : State).setVm s₂.vm := by
      have : s₂ = ({ s₂ with vm := (U.calling g mk a).vm } : State).setVm s₂.vm := rfl
      rw [e2] at this
      exact this
    obtain ⟨c₂, i₂, len₂, hc₂, hd₂, hf₂⟩ := hend
    have hW' : U.WarmedH s₂.vm := hW₂
    have hcc : c₂ = c := by
      have h1 : s₂.code? g.method = U.code? g.method := by
        rw [State.code?_eq, State.code?_eq, hW'.alike.method?]
      exact Option.some.inj (hc₂.symm.trans (h1.trans h.code))
    subst hcc
    have hlen : len₂ = len := by rw [hdg] at hd₂; cases hd₂; rfl
    subst hlen
    have hs₂ : s₂ = (({ U with heap := s₂.heap, slotsUsed := s₂.slotsUsed } : State).setVm s₂.vm).setTop { g with pc := g.pc + len₂, stack := v.toList ++ g.stack } := by
      refine e3.trans ?_
      rw [hf₂, State.calling_eq h.top, State.setFrames_setFrames, State.setTop_of_frames _ hr', hr]
      rfl
    have hsame : U.sameButNew ({ U with heap := s₂.heap, slotsUsed := s₂.slotsUsed } : State) L mc ms := by
      refine ⟨?_, q2, q3, q4, q5, q6⟩
      obtain ⟨t, ht, -⟩ := State.frames_cons hr
      show ({ U with heap := s₂.heap, slotsUsed := s₂.slotsUsed } : State) = { U.setFrames U.frames with heap := s₂.heap, slotsUsed := s₂.slotsUsed }
      rw [State.setFrames_self ht]
    subst hg
    refine Or.inl ⟨v, ⟨(({ U with heap := s₂.heap, slotsUsed := s₂.slotsUsed } : State).setVm s₂.vm), Ls ++ L, c0 + mc, s0 + ms⟩,
      ⟨X.admits, X.cas, X.clock, X.frames, X.room, X.hears, X.method, X.code, (X.here.setHeapUsed s₂.heap s₂.slotsUsed).setVm hW'.alike, X.tail, State.WarmedH.trans X.warmed hW', X.limits, X.bytes, X.same.trans (hsame.setVm s.vm)⟩,
      ⟨g, mk, s₂, L, rfl, rfl, hqc, rfl, hL, rfl, rfl⟩, ?_⟩
    show Steps p.tables e below _ ((({ U with heap := s₂.heap, slotsUsed := s₂.slotsUsed } : State).setVm s₂.vm).setTop { g with pc := g.pc + len₂, stack := v.toList ++ g.stack })
    rw [← hs₂]
    exact hsteps
  · obtain ⟨e2, q2, q3, q4, q5, q6⟩ := id hsm
    have e3 : s₂ = ({ (U.calling g mk a).setFrames s₂.frames with heap := s₂.heap, slotsUsed := s₂.slotsUsed } : State).setVm s₂.vm := by
      have : s₂ = ({ s₂ with vm := (U.calling g mk a).vm } : State).setVm s₂.vm := rfl
      rw [e2] at this
      exact this
    have hf₂ : s₂.frames = .throwing q :: .java g :: U.frames.tail := hend
    have hW' : U.WarmedH s₂.vm := hW₂
    have hs₂ : s₂ = ((({ U with heap := s₂.heap, slotsUsed := s₂.slotsUsed } : State).setVm s₂.vm).setTop g).pushFrame (.throwing q) := by
      refine e3.trans ?_
      rw [hf₂, State.calling_eq h.top, State.setFrames_setFrames, State.pushFrame, State.frames_setTop _ hr', State.setTop_of_frames _ hr', State.setFrames_setFrames, hr]
      rfl
    have hsame : U.sameButNew ({ U with heap := s₂.heap, slotsUsed := s₂.slotsUsed } : State) L mc ms := by
      refine ⟨?_, q2, q3, q4, q5, q6⟩
      obtain ⟨t, ht, -⟩ := State.frames_cons hr
      show ({ U with heap := s₂.heap, slotsUsed := s₂.slotsUsed } : State) = { U.setFrames U.frames with heap := s₂.heap, slotsUsed := s₂.slotsUsed }
      rw [State.setFrames_self ht]
    subst hg
    refine Or.inr ⟨q, ⟨(({ U with heap := s₂.heap, slotsUsed := s₂.slotsUsed } : State).setVm s₂.vm), Ls ++ L, c0 + mc, s0 + ms⟩,
      ⟨X.admits, X.cas, X.clock, X.frames, X.room, X.hears, X.method, X.code, (X.here.setHeapUsed s₂.heap s₂.slotsUsed).setVm hW'.alike, X.tail, State.WarmedH.trans X.warmed hW', X.limits, X.bytes, X.same.trans (hsame.setVm s.vm)⟩,
      ⟨g, mk, s₂, L, E, ce, rfl, rfl, hx, hce, hcv, hcl, rfl, hL, rfl, rfl⟩, ?_⟩
    show Steps p.tables e below _ (((({ U with heap := s₂.heap, slotsUsed := s₂.slotsUsed } : State).setVm s₂.vm).setTop g).pushFrame (.throwing q))
    rw [← hs₂]
    exact hsteps
end
variable {p : Program} {l : Launch} {e : Env} {R : Room} {s : State} {m : MethodId} {args : Array Value} {below : List Frame} {meth : Method} {c : Code} {T : State} {H : Heap} {locs : List Loc} {cells slots : Nat}
theorem vx_callVX (X : Stand p l e R s m args below meth c T locs cells slots) (hexec : p.tables.exec = Jvm.exec) {own C : String} {index : Nat} {y : MethodName} {bytes : ByteArray} {maxL : Nat} {ret : Option FieldType} {hh : List (Nat × Nat × Nat × Nat)}
    (hown : s.vm.findClass own = some m.cls) (hlink : (Cond.methodLink own index y).before args s = true) (hinst : (Cond.instanceMethod y).before args s = true) (hsel : (Cond.selects C y y).before args s = true)
    (hcode : (Cond.codeWith y bytes maxL ret hh).before args s = true) (hy : y.cls ≠ "java/lang/invoke/MethodHandle" ∧ y.cls ≠ "java/lang/invoke/VarHandle")
    {W9 : Nat} {Pre : Pt → Array Value → Prop} {Post : Pt → Array Value → Option Value → Pt → Prop} {PostX : Pt → Array Value → Addr → Pt → Prop} (hK : vx_Back l R p e below s args y 3 W9 Pre Post PostX)
    {b : Addr} {cellB : Cell} (hcell : T.heap[b]? = some cellB) (hobj : cellB.vm.isStatics = false) (hcls : s.vm.findClass C = some cellB.cls)
    {g : JFrame} (hg : g.method = m) (hsize : g.locals.size = c.maxLocals) {argsL rest : List Value} (hlen : ∀ sig, parseMethodDescriptor y.desc = some sig → argsL.length = sig.parameters.length)
    (hstack : g.stack = argsL.reverse ++ .ref b :: rest) (hW : 2 * g.monitorRoom + (rest.map fun v => v.category).sum ≤ W9) (hdg : decode c.code g.pc = .ok (.invokevirtual index, 3))
    (hpre : ∀ vm₁, s.WarmedH vm₁ → Pre ⟨T.setVm vm₁, locs, cells, slots⟩ (Value.ref b :: argsL).toArray) :
    (∃ (v : Option Value) (vm₁ : Vm) (B : Pt), s.WarmedH vm₁ ∧ Stand p l e R s m args below meth c B.U B.locs B.cells B.slots ∧ Post ⟨T.setVm vm₁, locs, cells, slots⟩ (Value.ref b :: argsL).toArray v B ∧
      ∀ target, Steps p.tables e below (B.U.setTop { g with pc := g.pc + 3, stack := v.toList ++ rest }) target → Steps p.tables e below (T.setTop g) target) ∨
    (∃ (q : Addr) (vm₁ : Vm) (B : Pt), s.WarmedH vm₁ ∧ Stand p l e R s m args below meth c B.U B.locs B.cells B.slots ∧ PostX ⟨T.setVm vm₁, locs, cells, slots⟩ (Value.ref b :: argsL).toArray q B ∧
      Steps p.tables e below (T.setTop g) ((B.U.setTop { g with stack := rest }).pushFrame (.throwing q))) := by
  obtain ⟨mk, methM, hnamed, hmethM, hstM, habM⟩ := Cond.instanceMethod_spec hinst
  obtain ⟨m8, methM', cM, hn8, hmethM', -, -, -, -, -, -, hsigM⟩ := Cond.codeWith_spec hcode
  cases Option.some.inj (hn8.symm.trans hnamed)
  cases hmethM.symm.trans hmethM'
  obtain ⟨c2, r2, m2, q1, q2, q3, q4, kP, hkP, hkPi⟩ := Cond.selects_spec hsel
  cases hcls.symm.trans q1
  cases (State.methodFound?_of_named hnamed hy).symm.trans q2
  cases hnamed.symm.trans q3
  have hselP : selectMethod e.platform s.vm cellB.cls mk = .method mk := by rw [Launch.admits_selectMethod X.admits]; exact q4
  obtain ⟨vm₁, X₁, hstep₁⟩ := X.invokevirtual hexec hown hlink hnamed hmethM hstM hkP hkPi hy (a := b) (cell := cellB) hcell
    (fun z h => by rw [h] at hobj; cases hobj) hselP hmethM habM hkP hkPi (g := g) hg (argsL := argsL) (rest := rest) (hlen _ hsigM) hstack hdg
  rcases hK m meth c ⟨T.setVm vm₁, locs, cells, slots⟩ { g with stack := rest } (.invokevirtual index) mk (Value.ref b :: argsL).toArray X₁ hg hsize hdg hW (X₁.named hnamed) (hpre vm₁ X₁.warmed) with ⟨v, B, X', hpost, hsteps⟩ | ⟨q, B, X', hpost, hsteps⟩
  · exact Or.inl ⟨v, vm₁, B, X₁.warmed, X', hpost, fun target h => hstep₁ _ fun acts => by rw [doInvoke_state]; exact hsteps.trans h⟩
  · exact Or.inr ⟨q, vm₁, B, X₁.warmed, X', hpost, hstep₁ _ fun acts => by rw [doInvoke_state]; exact hsteps⟩
theorem vx_callSX (X : Stand p l e R s m args below meth c T locs cells slots) (hexec : p.tables.exec = Jvm.exec) {own : String} {index : Nat} {y : MethodName} {bytes : ByteArray} {maxL : Nat} {ret : Option FieldType} {hh : List (Nat × Nat × Nat × Nat)}
    (hown : s.vm.findClass own = some m.cls) (hlink : (Cond.methodLink own index y).before args s = true) (hstat : (Cond.static y).before args s = true) (hinit : (Cond.initialized y.cls).before args s = true)
    (hcode : (Cond.codeWith y bytes maxL ret hh).before args s = true) (hy : y.cls ≠ "java/lang/invoke/MethodHandle" ∧ y.cls ≠ "java/lang/invoke/VarHandle")
    {W9 : Nat} {Pre : Pt → Array Value → Prop} {Post : Pt → Array Value → Option Value → Pt → Prop} {PostX : Pt → Array Value → Addr → Pt → Prop} (hK : vx_Back l R p e below s args y 3 W9 Pre Post PostX)
    {g : JFrame} (hg : g.method = m) (hsize : g.locals.size = c.maxLocals) {argsL rest : List Value} (hlen : ∀ sig, parseMethodDescriptor y.desc = some sig → argsL.length = sig.parameters.length)
    (hstack : g.stack = argsL.reverse ++ rest) (hW : 2 * g.monitorRoom + (rest.map fun v => v.category).sum ≤ W9) (hdg : decode c.code g.pc = .ok (.invokestatic index, 3))
    (hpre : ∀ vm₁, s.WarmedH vm₁ → Pre ⟨T.setVm vm₁, locs, cells, slots⟩ argsL.toArray) :
    (∃ (v : Option Value) (vm₁ : Vm) (B : Pt), s.WarmedH vm₁ ∧ Stand p l e R s m args below meth c B.U B.locs B.cells B.slots ∧ Post ⟨T.setVm vm₁, locs, cells, slots⟩ argsL.toArray v B ∧
      ∀ target, Steps p.tables e below (B.U.setTop { g with pc := g.pc + 3, stack := v.toList ++ rest }) target → Steps p.tables e below (T.setTop g) target) ∨
    (∃ (q : Addr) (vm₁ : Vm) (B : Pt), s.WarmedH vm₁ ∧ Stand p l e R s m args below meth c B.U B.locs B.cells B.slots ∧ PostX ⟨T.setVm vm₁, locs, cells, slots⟩ argsL.toArray q B ∧
      Steps p.tables e below (T.setTop g) ((B.U.setTop { g with stack := rest }).pushFrame (.throwing q))) := by
  obtain ⟨mk, methM, cM, hnamed, hmethM, -, -, -, -, -, -, hsigM⟩ := Cond.codeWith_spec hcode
  have hstatic : methM.isStatic = true := Cond.static_spec hnamed hmethM hstat
  obtain ⟨kP, hkP, -⟩ := className_of_methodNamed hnamed
  have hinitP : kP.init = .initialized := Cond.initialized_spec (findClass_of_methodNamed hnamed) hkP hinit
  obtain ⟨vm₁, X₁, hstep₁⟩ := X.invokestatic hexec hown hlink hnamed hmethM hstatic hkP hinitP hy (g := g) hg (argsL := argsL) (rest := rest) (hlen _ hsigM) hstack hdg
  rcases hK m meth c ⟨T.setVm vm₁, locs, cells, slots⟩ { g with stack := rest } (.invokestatic index) mk argsL.toArray X₁ hg hsize hdg hW (X₁.named hnamed) (hpre vm₁ X₁.warmed) with ⟨v, B, X', hpost, hsteps⟩ | ⟨q, B, X', hpost, hsteps⟩
  · exact Or.inl ⟨v, vm₁, B, X₁.warmed, X', hpost, fun target h => hstep₁ _ fun acts => by rw [doInvoke_state]; exact hsteps.trans h⟩
  · exact Or.inr ⟨q, vm₁, B, X₁.warmed, X', hpost, hstep₁ _ fun acts => by rw [doInvoke_state]; exact hsteps⟩
theorem vx_callVW (X : Stand p l e R s m args below meth c T locs cells slots) (hexec : p.tables.exec = Jvm.exec) {own C : String} {index : Nat} {y : MethodName} {bytes : ByteArray} {maxL : Nat} {ret : Option FieldType} {hh : List (Nat × Nat × Nat × Nat)}
    (hown : s.vm.findClass own = some m.cls) (hlink : (Cond.methodLink own index y).before args s = true) (hinst : (Cond.instanceMethod y).before args s = true) (hsel : (Cond.selects C y y).before args s = true)
    (hcode : (Cond.codeWith y bytes maxL ret hh).before args s = true) (hy : y.cls ≠ "java/lang/invoke/MethodHandle" ∧ y.cls ≠ "java/lang/invoke/VarHandle")
    {W9 : Nat} {Pre : Pt → Array Value → Prop} {Post : Pt → Array Value → Option Value → Pt → Prop} (hK : Back l R p e below s args y 3 W9 Pre Post)
    {b : Addr} {cellB : Cell} (hcell : T.heap[b]? = some cellB) (hobj : cellB.vm.isStatics = false) (hcls : s.vm.findClass C = some cellB.cls)
    {g : JFrame} (hg : g.method = m) (hsize : g.locals.size = c.maxLocals) {argsL rest : List Value} (hlen : ∀ sig, parseMethodDescriptor y.desc = some sig → argsL.length = sig.parameters.length)
    (hstack : g.stack = argsL.reverse ++ .ref b :: rest) (hW : 2 * g.monitorRoom + (rest.map fun v => v.category).sum ≤ W9) (hdg : decode c.code g.pc = .ok (.invokevirtual index, 3))
    (hpre : ∀ vm₁, s.WarmedH vm₁ → Pre ⟨T.setVm vm₁, locs, cells, slots⟩ (Value.ref b :: argsL).toArray) :
    ∃ (v : Option Value) (vm₁ : Vm) (B : Pt), s.WarmedH vm₁ ∧ Stand p l e R s m args below meth c B.U B.locs B.cells B.slots ∧ Post ⟨T.setVm vm₁, locs, cells, slots⟩ (Value.ref b :: argsL).toArray v B ∧
      ∀ target, Steps p.tables e below (B.U.setTop { g with pc := g.pc + 3, stack := v.toList ++ rest }) target → Steps p.tables e below (T.setTop g) target := by
  obtain ⟨mk, methM, hnamed, hmethM, hstM, habM⟩ := Cond.instanceMethod_spec hinst
  obtain ⟨m8, methM', cM, hn8, hmethM', -, -, -, -, -, -, hsigM⟩ := Cond.codeWith_spec hcode
  cases Option.some.inj (hn8.symm.trans hnamed)
  cases hmethM.symm.trans hmethM'
  obtain ⟨c2, r2, m2, q1, q2, q3, q4, kP, hkP, hkPi⟩ := Cond.selects_spec hsel
  cases hcls.symm.trans q1
  cases (State.methodFound?_of_named hnamed hy).symm.trans q2
  cases hnamed.symm.trans q3
  have hselP : selectMethod e.platform s.vm cellB.cls mk = .method mk := by rw [Launch.admits_selectMethod X.admits]; exact q4
  obtain ⟨vm₁, X₁, hstep₁⟩ := X.invokevirtual hexec hown hlink hnamed hmethM hstM hkP hkPi hy (a := b) (cell := cellB) hcell
    (fun z h => by rw [h] at hobj; cases hobj) hselP hmethM habM hkP hkPi (g := g) hg (argsL := argsL) (rest := rest) (hlen _ hsigM) hstack hdg
  obtain ⟨v, B, X', hpost, hsteps⟩ := hK m meth c ⟨T.setVm vm₁, locs, cells, slots⟩ { g with stack := rest } (.invokevirtual index) mk (Value.ref b :: argsL).toArray X₁ hg hsize hdg hW (X₁.named hnamed) (hpre vm₁ X₁.warmed)
  exact ⟨v, vm₁, B, X₁.warmed, X', hpost, fun target h => hstep₁ _ fun acts => by rw [doInvoke_state]; exact hsteps.trans h⟩
abbrev vx_CVW (R : Room) (s : State) (args : Array Value) (own C : String) (index : Nat) (y : MethodName) (bytes : ByteArray) (maxL : Nat) (ret : Option FieldType) (hh : List (Nat × Nat × Nat × Nat)) (ws : List Cond) (rm : Room) (mc ms n : Nat) : Prop :=
  (rm.cells = mc ∧ rm.slots = ms ∧ rm.frames + 1 ≤ R.frames ∧ 8 + (maxL + 11) + rm.locals ≤ R.locals ∧ (∀ w ∈ ws, ∀ (a' : Array Value) (U : State), s.WarmedH U.vm → w.before a' U = true) ∧ Cond.codeWith y bytes maxL ret hh ∈ ws) ∧
  (Cond.codeWith y bytes maxL ret hh).before args s = true ∧ (Cond.initialized y.cls).before args s = true ∧ (y.cls ≠ "java/lang/invoke/MethodHandle" ∧ y.cls ≠ "java/lang/invoke/VarHandle") ∧
  (∀ sig, parseMethodDescriptor y.desc = some sig → n = sig.parameters.length) ∧ (Cond.methodLink own index y).before args s = true ∧ (Cond.instanceMethod y).before args s = true ∧ (Cond.selects C y y).before args s = true
theorem vx_cwVW {own C : String} {index maxL mc ms : Nat} {y : MethodName} {bytes : ByteArray} {ret : Option FieldType} {hh : List (Nat × Nat × Nat × Nat)} {Ts ws ws' : List Cond} {rm : Room} (n : Nat) (ht : ∀ w ∈ Ts, w.before args s = true) (hT : GoodIn Ts (wsV own index C y ws)) (hw : ws = Cond.codeWith y bytes maxL ret hh :: ws') (hrc : rm.cells = mc) (hrs : rm.slots = ms)
    (hd : y.cls = C ∧ y.cls ≠ "java/lang/invoke/MethodHandle" ∧ y.cls ≠ "java/lang/invoke/VarHandle" ∧ (parseMethodDescriptor y.desc).map (fun d => d.parameters.length) = some n) (hR : rm.frames + 1 ≤ R.frames ∧ 8 + (maxL + 11) + rm.locals ≤ R.locals) :
    vx_CVW R s args own C index y bytes maxL ret hh ws rm mc ms n := by
  obtain ⟨hC, hd⟩ := hd
  subst hC
  have ok : ∀ w ∈ wsV own index y.cls y ws, w.before args s = true := fun w h => ht w (hT w h).1
  have hG : GoodIn Ts ws := fun w h => hT w (by unfold wsV; exact List.mem_append_right _ h)
  have hc : Cond.codeWith y bytes maxL ret hh ∈ ws := by rw [hw]; exact List.mem_cons_self
  refine ⟨⟨hrc, hrs, hR.1, hR.2, pay_in ht hG, hc⟩, ht _ (hG _ hc).1, ok _ (by simp [wsV]), ⟨hd.1, hd.2.1⟩, fun sig h => ?_, ok _ (by simp [wsV]), ok _ (by simp [wsV]), ok _ (by simp [wsV])⟩
  have h2 := hd.2.2
  rw [h] at h2
  exact (Option.some.inj h2).symm
theorem vx_runVW {y : MethodName} {bytes cc : ByteArray} {maxL nL mc ms n index : Nat} {ret : Option FieldType} {hh : List (Nat × Nat × Nat × Nat)} {ws : List Cond} {rm : Room} {Pc : Array Value → State → Prop} {Qc : Array Value → State → Outcome → State → Prop} {free : Addr → Prop} {Ts : List Cond} {own C : String} {b : Addr} {As rest : List Value} {g : JFrame}
    (S : CallFix p m c cc nL s args Ts own) (hM : Met l y ws rm Pc Qc mc ms free) (cw : vx_CVW R s args own C index y bytes maxL ret hh ws rm mc ms n) (hp : PreV s H C b Pc As)
    (hg : g.method = m) (hn : As.length = n) (hsize : g.locals.size = nL) (hstack : g.stack = As.reverse ++ .ref b :: rest) (hW : 2 * g.monitorRoom + (rest.map fun v => v.category).sum ≤ 8) (hdg : decode cc g.pc = .ok (.invokevirtual index, 3)) (hf : cells + mc ≤ R.cells ∧ slots + ms ≤ R.slots) :
    va_Run p l e R s m args below meth c H locs cells slots mc ms g rest (Qc (Value.ref b :: As).toArray) free := by
  obtain ⟨⟨hrc, hrs, hfr, hlo, hws, hcw⟩, hcode, hini, hy, hlen, hl, hin, hse⟩ := cw
  have hK : Back l R p e below s args y 3 8 (PreOf R mc ms Pc) (PostOf Qc mc ms free) := va_backW (hh := hh) (bytes := bytes) (maxL := maxL) (ret := ret) hM hp.1 hrc hrs hfr hlo hws hcw (fun a' U hW => word_at hW (Or.inl (by first | rfl | simp [Cond.onTables, Cond.keeps, Cond.steady])) hini)
  obtain ⟨hx, hb, hml, ho, -⟩ := S
  obtain ⟨-, ⟨cellB, hcB, hoB, hclB⟩, hPc⟩ := hp
  intro T hT X
  obtain ⟨v, vm₁, ⟨U', l2, c2, s2⟩, hW₁, X', ⟨g', mk, t, L, e1, e2, hq, h1, hL, h2, h3⟩, st⟩ := vx_callVW X hx (C := C) (hh := hh) (bytes := bytes) (maxL := maxL) (ret := ret) ho hl hin hse hcode hy hK (by rw [hT]; exact hcB) hoB hclB hg (hsize.trans hml.symm) (argsL := As) (rest := rest) (fun sig h => hn.trans (hlen sig h)) hstack hW (by rw [hb]; exact hdg)
    (fun vm₁ hW₁ => ⟨hf.1, hf.2, hPc (T.setVm vm₁) hT hW₁⟩)
  dsimp only [Pt.U, Pt.locs, Pt.cells, Pt.slots] at X' e1 e2 h1 h2 h3 st
  subst h1; subst h2; subst h3
  exact ⟨v, (T.setVm vm₁).calling g' mk (Value.ref b :: As).toArray, t, U', L, hT, X', hL, e1, e2, hq, st⟩
section
variable {y : MethodName} {bytes cc : ByteArray} {maxL nL mc ms n index : Nat} {ret : Option FieldType} {ws : List Cond} {rm : Room} {Pc : Array Value → State → Prop} {Qc : Array Value → State → Outcome → State → Prop} {XC : String → State → State → Prop} {free : Addr → Prop} {Ts : List Cond} {own C : String} {b : Addr} {As rest : List Value} {g : JFrame}
theorem vx_runVX {hh : List (Nat × Nat × Nat × Nat)} (S : CallFix p m c cc nL s args Ts own) (hM : vx_Met l y ws rm Pc Qc XC mc ms free) (cw : vx_CVW R s args own C index y bytes maxL ret hh ws rm mc ms n) (hp : PreV s H C b Pc As)
    (hg : g.method = m) (hn : As.length = n) (hsize : g.locals.size = nL) (hstack : g.stack = As.reverse ++ .ref b :: rest) (hW : 2 * g.monitorRoom + (rest.map fun v => v.category).sum ≤ 8) (hdg : decode cc g.pc = .ok (.invokevirtual index, 3)) (hf : cells + mc ≤ R.cells ∧ slots + ms ≤ R.slots) :
    vx_Run p l e R s m args below meth c H locs cells slots mc ms g rest (Qc (Value.ref b :: As).toArray) XC free := by
  obtain ⟨⟨hrc, hrs, hfr, hlo, hws, hcw⟩, hcode, hini, hy, hlen, hl, hin, hse⟩ := cw
  have hK : vx_Back l R p e below s args y 3 8 (PreOf R mc ms Pc) (PostOf Qc mc ms free) (vx_Post XC mc ms free) := vx_backW (hh := hh) (bytes := bytes) (maxL := maxL) (ret := ret) hM hp.1 hrc hrs hfr hlo hws hcw (fun a' U hW => word_at hW (Or.inl (by first | rfl | simp [Cond.onTables, Cond.keeps, Cond.steady])) hini)
  obtain ⟨hx, hb, hml, ho, -⟩ := S
  obtain ⟨-, ⟨cellB, hcB, hoB, hclB⟩, hPc⟩ := hp
  intro T hT X
  rcases vx_callVX X hx (C := C) (hh := hh) (bytes := bytes) (maxL := maxL) (ret := ret) ho hl hin hse hcode hy hK (by rw [hT]; exact hcB) hoB hclB hg (hsize.trans hml.symm) (argsL := As) (rest := rest) (fun sig h => hn.trans (hlen sig h)) hstack hW (by rw [hb]; exact hdg)
    (fun vm₁ hW₁ => ⟨hf.1, hf.2, hPc (T.setVm vm₁) hT hW₁⟩) with ⟨v, vm₁, ⟨U', l2, c2, s2⟩, hW₁, X', ⟨g', mk, t, L, e1, e2, hq, h1, hL, h2, h3⟩, st⟩ | ⟨q, vm₁, ⟨U', l2, c2, s2⟩, hW₁, X', ⟨g', mk, t, L, E, ce, e1, e2, hq, hce, hcv, hcl, h1, hL, h2, h3⟩, st⟩
  · dsimp only [Pt.U, Pt.locs, Pt.cells, Pt.slots] at X' e1 e2 h1 h2 h3 st
    subst h1; subst h2; subst h3
    exact Or.inl ⟨v, (T.setVm vm₁).calling g' mk (Value.ref b :: As).toArray, t, U', L, hT, X', hL, e1, e2, hq, st⟩
  · dsimp only [Pt.U, Pt.locs, Pt.cells, Pt.slots] at X' e1 e2 h1 h2 h3 st hcl
    subst h1; subst h2; subst h3
    exact Or.inr ⟨q, (T.setVm vm₁).calling g' mk (Value.ref b :: As).toArray, t, U', L, E, ce, hT, X', hL, e1, e2, hq, hce, hcv, vx_cls hW₁ hcl, st⟩
theorem vx_runSX {hh : List (Nat × Nat × Nat × Nat)} (S : CallFix p m c cc nL s args Ts own) (hM : vx_Met l y ws rm Pc Qc XC mc ms free) (cw : vx_CSW R s args own index y bytes maxL ret hh ws rm mc ms n) (hp : PreS s H Pc As)
    (hg : g.method = m) (hn : As.length = n) (hsize : g.locals.size = nL) (hstack : g.stack = As.reverse ++ rest) (hW : 2 * g.monitorRoom + (rest.map fun v => v.category).sum ≤ 8) (hdg : decode cc g.pc = .ok (.invokestatic index, 3)) (hf : cells + mc ≤ R.cells ∧ slots + ms ≤ R.slots) :
    vx_Run p l e R s m args below meth c H locs cells slots mc ms g rest (Qc As.toArray) XC free := by
  obtain ⟨⟨hrc, hrs, hfr, hlo, hws, hcw⟩, hcode, hini, hy, hlen, hl, hstt⟩ := cw
  have hK : vx_Back l R p e below s args y 3 8 (PreOf R mc ms Pc) (PostOf Qc mc ms free) (vx_Post XC mc ms free) := vx_backW (hh := hh) (bytes := bytes) (maxL := maxL) (ret := ret) hM hp.1 hrc hrs hfr hlo hws hcw (fun a' U hW => word_at hW (Or.inl (by first | rfl | simp [Cond.onTables, Cond.keeps, Cond.steady])) hini)
  obtain ⟨hx, hb, hml, ho, -⟩ := S
  intro T hT X
  rcases vx_callSX X hx (hh := hh) (bytes := bytes) (maxL := maxL) (ret := ret) ho hl hstt hini hcode hy hK hg (hsize.trans hml.symm) (argsL := As) (rest := rest) (fun sig h => hn.trans (hlen sig h)) hstack hW (by rw [hb]; exact hdg)
    (fun vm₁ hW₁ => ⟨hf.1, hf.2, hp.2 (T.setVm vm₁) hT hW₁⟩) with ⟨v, vm₁, ⟨U', l2, c2, s2⟩, hW₁, X', ⟨g', mk, t, L, e1, e2, hq, h1, hL, h2, h3⟩, st⟩ | ⟨q, vm₁, ⟨U', l2, c2, s2⟩, hW₁, X', ⟨g', mk, t, L, E, ce, e1, e2, hq, hce, hcv, hcl, h1, hL, h2, h3⟩, st⟩
  · dsimp only [Pt.U, Pt.locs, Pt.cells, Pt.slots] at X' e1 e2 h1 h2 h3 st
    subst h1; subst h2; subst h3
    exact Or.inl ⟨v, (T.setVm vm₁).calling g' mk As.toArray, t, U', L, hT, X', hL, e1, e2, hq, st⟩
  · dsimp only [Pt.U, Pt.locs, Pt.cells, Pt.slots] at X' e1 e2 h1 h2 h3 st hcl
    subst h1; subst h2; subst h3
    exact Or.inr ⟨q, (T.setVm vm₁).calling g' mk As.toArray, t, U', L, E, ce, hT, X', hL, e1, e2, hq, hce, hcv, vx_cls hW₁ hcl, st⟩
end
end VXH
theorem vx_ofWH {l : Launch} {y : MethodName} {ws ws' : List Cond} {rm : Room} {Pc : Array Value → State → Prop} {Qc : Array Value → State → Outcome → State → Prop} {XC : String → State → State → Prop} {mc ms : Nat} {free : Addr → Prop} {cc : ByteArray} {maxL : Nat} {ret : Option FieldType} {hh : List (Nat × Nat × Nat × Nat)}
    (hy : plainName y.cls = true) (hw : ws = Cond.codeWith y cc maxL ret hh :: ws')
    (body : ∀ p e s m args below meth c s₁, BodyLoose p l y (headSpec ws rm) cc maxL ret e s m args below meth c s₁ → c.maxLocals = maxL → Pc args s →
      W p l e (headSpec ws rm).room s m args below meth c s.heap [] 0 0 (vx_MQ below Qc XC args s mc ms free) (entryFrame m args maxL)) : vx_Met l y ws rm Pc Qc XC mc ms free := by
  refine MetFree.of_bodyS (code := cc) (maxLocals := maxL) (ret := ret) hy ?_ ?_
  · intro args s m h hn
    obtain ⟨m9, meth, c, hn9, h1, h2, h3, h4, -, h5, h6, -⟩ := Cond.codeWith_spec (atoms_spec (ws := ws) h _ (by rw [hw]; exact List.mem_cons_self))
    cases hn.symm.trans hn9
    exact ⟨meth, c, h1, h2, h3, h4, h5, h6⟩
  · intro p e s m args below meth c s₁ B hml hP _
    have hh0 : s₁.heap = s.heap := by rw [B.state]; rfl
    obtain ⟨t, a1, o, b1, b2, b3⟩ := body p e s m args below meth c s₁ B hml hP s₁ hh0 (Stand.of_body B)
    exact ⟨t, o, a1, b1, b2, b3⟩
/-! ===== END ===== -/

def RX0 : String := "Farfiles$Act"
def TX0 : u_T := fun k => match k with
  | 0 => ("Farfiles$Act", "client", "I", true)
  | 1 => ("Farfiles$Act", "object", "I", true)
  | 2 => ("Farfiles$Act", "kind", "C", true)
  | 3 => ("Farfiles$Act", "name", "I", true)
  | 4 => ("Farfiles$Act", "target", "I", true)
  | 5 => ("Farfiles$Act", "text", "[C", true)
  | 6 => ("Farfiles$Act", "seen", "LFarfiles$ActSet;", true)
  | _ => ("Farfiles$Act", "taken", "LFarfiles$ActSet;", true)
def tyX0 : Nat → FieldType := fun k => match k with
  | 0 => .int
  | 1 => .int
  | 2 => .char
  | 3 => .int
  | 4 => .int
  | 5 => .array .char
  | 6 => .object "Farfiles$ActSet"
  | _ => .object "Farfiles$ActSet"
abbrev wsX00 : List Cond := u_ws RX0 TX0 8
theorem nmX0 : ∀ a, a < 8 → ∀ b, b < 8 → a ≠ b → (TX0 a).2.1 ≠ (TX0 b).2.1 := by decide +kernel
theorem tyX0_ok : ∀ k, k < 8 → parseFieldDescriptor (TX0 k).2.2.1 = some (tyX0 k) := by decide +kernel
abbrev cX0_init : ByteArray := prog_2_method_1_code
def yX0_init : MethodName := ⟨RX0, "<init>", "(IICII[C)V"⟩
abbrev cX0_isAddLike : ByteArray := prog_2_method_2_code
def yX0_isAddLike : MethodName := ⟨RX0, "isAddLike", "(LFarfiles$Act;)Z"⟩
def RX1 : String := "Farfiles$ActSet"
def TX1 : u_T := fun k => match k with
  | _ => ("Farfiles$ActSet", "words", "[J", true)
def tyX1 : Nat → FieldType := fun k => match k with
  | _ => .array .long
abbrev wsX10 : List Cond := u_ws RX1 TX1 1
theorem nmX1 : ∀ a, a < 1 → ∀ b, b < 1 → a ≠ b → (TX1 a).2.1 ≠ (TX1 b).2.1 := by decide +kernel
theorem tyX1_ok : ∀ k, k < 1 → parseFieldDescriptor (TX1 k).2.2.1 = some (tyX1 k) := by decide +kernel
abbrev cX1_init : ByteArray := prog_3_method_1_code
def yX1_init : MethodName := ⟨RX1, "<init>", "()V"⟩
abbrev cX1_has : ByteArray := prog_3_method_2_code
def yX1_has : MethodName := ⟨RX1, "has", "(I)Z"⟩
abbrev cX1_put : ByteArray := prog_3_method_3_code
def yX1_put : MethodName := ⟨RX1, "put", "(I)V"⟩
abbrev cX1_takeOut : ByteArray := prog_3_method_4_code
def yX1_takeOut : MethodName := ⟨RX1, "takeOut", "(I)V"⟩
abbrev cX1_empty : ByteArray := prog_3_method_5_code
def yX1_empty : MethodName := ⟨RX1, "empty", "()V"⟩
abbrev cX1_putAll : ByteArray := prog_3_method_6_code
def yX1_putAll : MethodName := ⟨RX1, "putAll", "(LFarfiles$ActSet;)V"⟩
abbrev cX1_takeOutAll : ByteArray := prog_3_method_7_code
def yX1_takeOutAll : MethodName := ⟨RX1, "takeOutAll", "(LFarfiles$ActSet;)V"⟩
abbrev cX1_size : ByteArray := prog_3_method_8_code
def yX1_size : MethodName := ⟨RX1, "size", "()I"⟩
abbrev cX1_countUnlike : ByteArray := prog_3_method_9_code
def yX1_countUnlike : MethodName := ⟨RX1, "countUnlike", "(LFarfiles$ActSet;)I"⟩
def RX2 : String := "Farfiles$Answers"
def TX2 : u_T := fun k => match k with
  | 0 => ("Farfiles$Answers", "stores", "[LFarfiles$Act;", true)
  | 1 => ("Farfiles$Answers", "names", "[I", true)
  | 2 => ("Farfiles$Answers", "objects", "[I", true)
  | _ => ("Farfiles$Answers", "count", "I", false)
def tyX2 : Nat → FieldType := fun k => match k with
  | 0 => .array (.object "Farfiles$Act")
  | 1 => .array .int
  | 2 => .array .int
  | _ => .int
abbrev wsX20 : List Cond := u_ws RX2 TX2 4
theorem nmX2 : ∀ a, a < 4 → ∀ b, b < 4 → a ≠ b → (TX2 a).2.1 ≠ (TX2 b).2.1 := by decide +kernel
theorem tyX2_ok : ∀ k, k < 4 → parseFieldDescriptor (TX2 k).2.2.1 = some (tyX2 k) := by decide +kernel
abbrev cX2_init : ByteArray := prog_4_method_1_code
def yX2_init : MethodName := ⟨RX2, "<init>", "()V"⟩
abbrev cX2_empty : ByteArray := prog_4_method_2_code
def yX2_empty : MethodName := ⟨RX2, "empty", "()V"⟩
abbrev cX2_putText : ByteArray := prog_4_method_3_code
def yX2_putText : MethodName := ⟨RX2, "putText", "(LFarfiles$Act;)V"⟩
abbrev cX2_putEntry : ByteArray := prog_4_method_4_code
def yX2_putEntry : MethodName := ⟨RX2, "putEntry", "(II)V"⟩
abbrev cX2_putBehind : ByteArray := prog_4_method_5_code
def yX2_putBehind : MethodName := ⟨RX2, "putBehind", "(II)V"⟩
abbrev cX2_putAt : ByteArray := prog_4_method_6_code
def yX2_putAt : MethodName := ⟨RX2, "putAt", "(ILFarfiles$Act;II)V"⟩
abbrev cX2_hasPlace : ByteArray := prog_4_method_7_code
def yX2_hasPlace : MethodName := ⟨RX2, "hasPlace", "(I)Z"⟩
abbrev cX2_textAt : ByteArray := prog_4_method_8_code
def yX2_textAt : MethodName := ⟨RX2, "textAt", "(I)[C"⟩
abbrev cX2_nameAt : ByteArray := prog_4_method_9_code
def yX2_nameAt : MethodName := ⟨RX2, "nameAt", "(I)I"⟩
abbrev cX2_objectAt : ByteArray := prog_4_method_10_code
def yX2_objectAt : MethodName := ⟨RX2, "objectAt", "(I)I"⟩
def RX3 : String := "Farfiles$Client"
def TX3 : u_T := fun k => match k with
  | 0 => ("Farfiles$Client", "number", "I", true)
  | 1 => ("Farfiles$Client", "isUp", "[Z", true)
  | 2 => ("Farfiles$Client", "isHeld", "[Z", true)
  | 3 => ("Farfiles$Client", "ranks", "[I", true)
  | 4 => ("Farfiles$Client", "lookTimes", "[I", true)
  | 5 => ("Farfiles$Client", "known", "LFarfiles$ActSet;", true)
  | 6 => ("Farfiles$Client", "waiting", "LFarfiles$ActSet;", true)
  | 7 => ("Farfiles$Client", "heldCount", "I", false)
  | 8 => ("Farfiles$Client", "looks", "I", false)
  | 9 => ("Farfiles$Client", "looksAhead", "I", false)
  | 10 => ("Farfiles$Client", "made", "I", false)
  | _ => ("Farfiles$Client", "isThrough", "Z", false)
def tyX3 : Nat → FieldType := fun k => match k with
  | 0 => .int
  | 1 => .array .boolean
  | 2 => .array .boolean
  | 3 => .array .int
  | 4 => .array .int
  | 5 => .object "Farfiles$ActSet"
  | 6 => .object "Farfiles$ActSet"
  | 7 => .int
  | 8 => .int
  | 9 => .int
  | 10 => .int
  | _ => .boolean
abbrev wsX30 : List Cond := u_ws RX3 TX3 12
theorem nmX3 : ∀ a, a < 12 → ∀ b, b < 12 → a ≠ b → (TX3 a).2.1 ≠ (TX3 b).2.1 := by decide +kernel
theorem tyX3_ok : ∀ k, k < 12 → parseFieldDescriptor (TX3 k).2.2.1 = some (tyX3 k) := by decide +kernel
abbrev cX3_init : ByteArray := prog_5_method_1_code
def yX3_init : MethodName := ⟨RX3, "<init>", "(I)V"⟩
abbrev cX3_nearBits : ByteArray := prog_5_method_2_code
def yX3_nearBits : MethodName := ⟨RX3, "nearBits", "()I"⟩
abbrev cX3_isNear : ByteArray := prog_5_method_3_code
def yX3_isNear : MethodName := ⟨RX3, "isNear", "(I)Z"⟩
abbrev cX3_hasHold : ByteArray := prog_5_method_4_code
def yX3_hasHold : MethodName := ⟨RX3, "hasHold", "(I)Z"⟩
abbrev cX3_startCall : ByteArray := prog_5_method_5_code
def yX3_startCall : MethodName := ⟨RX3, "startCall", "()V"⟩
abbrev cX3_hasWaiting : ByteArray := prog_5_method_6_code
def yX3_hasWaiting : MethodName := ⟨RX3, "hasWaiting", "(LFarfiles$Log;I)Z"⟩
abbrev cX3_hasRoom : ByteArray := prog_5_method_7_code
def yX3_hasRoom : MethodName := ⟨RX3, "hasRoom", "(LFarfiles$Log;)Z"⟩
abbrev cX3_firstToGo : ByteArray := prog_5_method_8_code
def yX3_firstToGo : MethodName := ⟨RX3, "firstToGo", "(LFarfiles$Log;)I"⟩
abbrev cX3_goesAhead : ByteArray := prog_5_method_9_code
def yX3_goesAhead : MethodName := ⟨RX3, "goesAhead", "(II)Z"⟩
abbrev cX3_takeUp : ByteArray := prog_5_method_10_code
def yX3_takeUp : MethodName := ⟨RX3, "takeUp", "(LFarfiles$Log;I)V"⟩
abbrev cX3_letGo : ByteArray := prog_5_method_11_code
def yX3_letGo : MethodName := ⟨RX3, "letGo", "(LFarfiles$Log;I)V"⟩
abbrev cX3_learn : ByteArray := prog_5_method_12_code
def yX3_learn : MethodName := ⟨RX3, "learn", "(LFarfiles$Log;LFarfiles$ActSet;I)V"⟩
def RX4 : String := "Farfiles$Line"
def TX4 : u_T := fun k => match k with
  | 0 => ("Farfiles$Line", "signs", "[C", true)
  | _ => ("Farfiles$Line", "count", "I", false)
def tyX4 : Nat → FieldType := fun k => match k with
  | 0 => .array .char
  | _ => .int
abbrev wsX40 : List Cond := u_ws RX4 TX4 2
theorem nmX4 : ∀ a, a < 2 → ∀ b, b < 2 → a ≠ b → (TX4 a).2.1 ≠ (TX4 b).2.1 := by decide +kernel
theorem tyX4_ok : ∀ k, k < 2 → parseFieldDescriptor (TX4 k).2.2.1 = some (tyX4 k) := by decide +kernel
abbrev cX4_init : ByteArray := prog_6_method_1_code
def yX4_init : MethodName := ⟨RX4, "<init>", "()V"⟩
abbrev cX4_at : ByteArray := prog_6_method_2_code
def yX4_at : MethodName := ⟨RX4, "at", "(I)C"⟩
abbrev cX4_put : ByteArray := prog_6_method_3_code
def yX4_put : MethodName := ⟨RX4, "put", "(C)V"⟩
abbrev cX4_empty : ByteArray := prog_6_method_4_code
def yX4_empty : MethodName := ⟨RX4, "empty", "()V"⟩
abbrev cX4_copyFrom : ByteArray := prog_6_method_5_code
def yX4_copyFrom : MethodName := ⟨RX4, "copyFrom", "(I)[C"⟩
abbrev cX4_isLetter : ByteArray := prog_6_method_6_code
def yX4_isLetter : MethodName := ⟨RX4, "isLetter", "(I)Z"⟩
abbrev cX4_isDigit : ByteArray := prog_6_method_7_code
def yX4_isDigit : MethodName := ⟨RX4, "isDigit", "(I)Z"⟩
def RX5 : String := "Farfiles$Log"
def TX5 : u_T := fun k => match k with
  | 0 => ("Farfiles$Log", "row", "[LFarfiles$Act;", true)
  | 1 => ("Farfiles$Log", "none", "LFarfiles$Act;", true)
  | 2 => ("Farfiles$Log", "told", "LFarfiles$ActSet;", true)
  | 3 => ("Farfiles$Log", "gone", "LFarfiles$ActSet;", true)
  | _ => ("Farfiles$Log", "count", "I", false)
def tyX5 : Nat → FieldType := fun k => match k with
  | 0 => .array (.object "Farfiles$Act")
  | 1 => .object "Farfiles$Act"
  | 2 => .object "Farfiles$ActSet"
  | 3 => .object "Farfiles$ActSet"
  | _ => .int
abbrev wsX50 : List Cond := u_ws RX5 TX5 5
theorem nmX5 : ∀ a, a < 5 → ∀ b, b < 5 → a ≠ b → (TX5 a).2.1 ≠ (TX5 b).2.1 := by decide +kernel
theorem tyX5_ok : ∀ k, k < 5 → parseFieldDescriptor (TX5 k).2.2.1 = some (tyX5 k) := by decide +kernel
abbrev cX5_init : ByteArray := prog_7_method_1_code
def yX5_init : MethodName := ⟨RX5, "<init>", "()V"⟩
abbrev cX5_at : ByteArray := prog_7_method_2_code
def yX5_at : MethodName := ⟨RX5, "at", "(I)LFarfiles$Act;"⟩
abbrev cX5_hasRoomFor : ByteArray := prog_7_method_3_code
def yX5_hasRoomFor : MethodName := ⟨RX5, "hasRoomFor", "(I)Z"⟩
abbrev cX5_put : ByteArray := prog_7_method_4_code
def yX5_put : MethodName := ⟨RX5, "put", "(LFarfiles$Act;)I"⟩
abbrev cX5_gather : ByteArray := prog_7_method_5_code
def yX5_gather : MethodName := ⟨RX5, "gather", "(LFarfiles$ActSet;I)V"⟩
abbrev cX5_toldName : ByteArray := prog_7_method_6_code
def yX5_toldName : MethodName := ⟨RX5, "toldName", "(LFarfiles$Act;)I"⟩
abbrev cX5_entryOf : ByteArray := prog_7_method_7_code
def yX5_entryOf : MethodName := ⟨RX5, "entryOf", "(LFarfiles$ActSet;II)I"⟩
abbrev cX5_hasEntries : ByteArray := prog_7_method_8_code
def yX5_hasEntries : MethodName := ⟨RX5, "hasEntries", "(LFarfiles$ActSet;I)Z"⟩
abbrev cX5_tellFile : ByteArray := prog_7_method_9_code
def yX5_tellFile : MethodName := ⟨RX5, "tellFile", "(LFarfiles$ActSet;ILFarfiles$Answers;)V"⟩
abbrev cX5_tellDirectory : ByteArray := prog_7_method_10_code
def yX5_tellDirectory : MethodName := ⟨RX5, "tellDirectory", "(LFarfiles$ActSet;ILFarfiles$Answers;)V"⟩
abbrev cX5_takeAway : ByteArray := prog_7_method_11_code
def yX5_takeAway : MethodName := ⟨RX5, "takeAway", "(LFarfiles$ActSet;LFarfiles$Act;)V"⟩
abbrev cX5_takeAddsLike : ByteArray := prog_7_method_12_code
def yX5_takeAddsLike : MethodName := ⟨RX5, "takeAddsLike", "(LFarfiles$Act;LFarfiles$Act;)V"⟩
abbrev cX5_hasUnseenStore : ByteArray := prog_7_method_13_code
def yX5_hasUnseenStore : MethodName := ⟨RX5, "hasUnseenStore", "(LFarfiles$ActSet;I)Z"⟩
abbrev cX5_markEntries : ByteArray := prog_7_method_14_code
def yX5_markEntries : MethodName := ⟨RX5, "markEntries", "(LFarfiles$ActSet;I[Z)V"⟩
def RX6 : String := "Farfiles$Path"
def TX6 : u_T := fun k => match k with
  | 0 => ("Farfiles$Path", "names", "[I", true)
  | 1 => ("Farfiles$Path", "places", "[I", true)
  | 2 => ("Farfiles$Path", "way", "[I", true)
  | 3 => ("Farfiles$Path", "count", "I", false)
  | _ => ("Farfiles$Path", "looked", "I", false)
def tyX6 : Nat → FieldType := fun k => match k with
  | 0 => .array .int
  | 1 => .array .int
  | 2 => .array .int
  | 3 => .int
  | _ => .int
abbrev wsX60 : List Cond := u_ws RX6 TX6 5
theorem nmX6 : ∀ a, a < 5 → ∀ b, b < 5 → a ≠ b → (TX6 a).2.1 ≠ (TX6 b).2.1 := by decide +kernel
theorem tyX6_ok : ∀ k, k < 5 → parseFieldDescriptor (TX6 k).2.2.1 = some (tyX6 k) := by decide +kernel
abbrev cX6_init : ByteArray := prog_8_method_1_code
def yX6_init : MethodName := ⟨RX6, "<init>", "()V"⟩
abbrev cX6_readFrom : ByteArray := prog_8_method_2_code
def yX6_readFrom : MethodName := ⟨RX6, "readFrom", "(LFarfiles$Line;IC)I"⟩
abbrev cX6_isEnd : ByteArray := prog_8_method_3_code
def yX6_isEnd : MethodName := ⟨RX6, "isEnd", "(LFarfiles$Line;IC)Z"⟩
abbrev cX6_endOfName : ByteArray := prog_8_method_4_code
def yX6_endOfName : MethodName := ⟨RX6, "endOfName", "(LFarfiles$Line;I)I"⟩
abbrev cX6_nameBetween : ByteArray := prog_8_method_5_code
def yX6_nameBetween : MethodName := ⟨RX6, "nameBetween", "(LFarfiles$Line;II)I"⟩
abbrev cX6_faultOfLastName : ByteArray := prog_8_method_6_code
def yX6_faultOfLastName : MethodName := ⟨RX6, "faultOfLastName", "()I"⟩
abbrev cX6_nameAt : ByteArray := prog_8_method_7_code
def yX6_nameAt : MethodName := ⟨RX6, "nameAt", "(I)I"⟩
abbrev cX6_lastName : ByteArray := prog_8_method_8_code
def yX6_lastName : MethodName := ⟨RX6, "lastName", "()I"⟩
abbrev cX6_lookedAt : ByteArray := prog_8_method_9_code
def yX6_lookedAt : MethodName := ⟨RX6, "lookedAt", "(I)V"⟩
abbrev cX6_hasOnWay : ByteArray := prog_8_method_10_code
def yX6_hasOnWay : MethodName := ⟨RX6, "hasOnWay", "(I)Z"⟩
def RX7 : String := "Farfiles"
def TX7 : u_T := fun k => match k with
  | 0 => ("Farfiles", "text", "LFarfiles$Line;", true)
  | 1 => ("Farfiles", "log", "LFarfiles$Log;", true)
  | 2 => ("Farfiles", "told", "LFarfiles$Answers;", true)
  | 3 => ("Farfiles", "clients", "[LFarfiles$Client;", true)
  | 4 => ("Farfiles", "servers", "[LFarfiles$ActSet;", true)
  | 5 => ("Farfiles", "isWireUp", "[Z", true)
  | 6 => ("Farfiles", "isMade", "[Z", true)
  | 7 => ("Farfiles", "isDirectory", "[Z", true)
  | 8 => ("Farfiles", "first", "LFarfiles$Path;", true)
  | 9 => ("Farfiles", "second", "LFarfiles$Path;", true)
  | 10 => ("Farfiles", "earlyActs", "LFarfiles$ActSet;", true)
  | 11 => ("Farfiles", "isOnWay", "[Z", true)
  | 12 => ("Farfiles", "isGoneBy", "[Z", true)
  | 13 => ("Farfiles", "isLost", "[Z", true)
  | 14 => ("Farfiles", "isLostToo", "[Z", true)
  | _ => ("Farfiles", "why", "C", false)
def tyX7 : Nat → FieldType := fun k => match k with
  | 0 => .object "Farfiles$Line"
  | 1 => .object "Farfiles$Log"
  | 2 => .object "Farfiles$Answers"
  | 3 => .array (.object "Farfiles$Client")
  | 4 => .array (.object "Farfiles$ActSet")
  | 5 => .array .boolean
  | 6 => .array .boolean
  | 7 => .array .boolean
  | 8 => .object "Farfiles$Path"
  | 9 => .object "Farfiles$Path"
  | 10 => .object "Farfiles$ActSet"
  | 11 => .array .boolean
  | 12 => .array .boolean
  | 13 => .array .boolean
  | 14 => .array .boolean
  | _ => .char
abbrev wsX70 : List Cond := u_ws RX7 TX7 16
theorem nmX7 : ∀ a, a < 16 → ∀ b, b < 16 → a ≠ b → (TX7 a).2.1 ≠ (TX7 b).2.1 := by decide +kernel
theorem tyX7_ok : ∀ k, k < 16 → parseFieldDescriptor (TX7 k).2.2.1 = some (tyX7 k) := by decide +kernel
abbrev cX7_init : ByteArray := prog_1_method_1_code
def yX7_init : MethodName := ⟨RX7, "<init>", "()V"⟩
abbrev cX7_packed : ByteArray := prog_1_method_2_code
def yX7_packed : MethodName := ⟨RX7, "packed", "(CCC)I"⟩
abbrev cX7_nameOfNumber : ByteArray := prog_1_method_3_code
def yX7_nameOfNumber : MethodName := ⟨RX7, "nameOfNumber", "(I)I"⟩
abbrev cX7_signOfName : ByteArray := prog_1_method_4_code
def yX7_signOfName : MethodName := ⟨RX7, "signOfName", "(II)C"⟩
abbrev cX7_compareTexts : ByteArray := prog_1_method_5_code
def yX7_compareTexts : MethodName := ⟨RX7, "compareTexts", "([C[C)I"⟩
abbrev cX7_isObject : ByteArray := prog_1_method_6_code
def yX7_isObject : MethodName := ⟨RX7, "isObject", "(I)Z"⟩
abbrev cX7_isSign : ByteArray := prog_1_method_7_code
def yX7_isSign : MethodName := ⟨RX7, "isSign", "(C)Z"⟩
abbrev cX7_clientOf : ByteArray := prog_1_method_8_code
def yX7_clientOf : MethodName := ⟨RX7, "clientOf", "(I)LFarfiles$Client;"⟩
abbrev cX7_serverOf : ByteArray := prog_1_method_9_code
def yX7_serverOf : MethodName := ⟨RX7, "serverOf", "(I)LFarfiles$ActSet;"⟩
abbrev cX7_wireOf : ByteArray := prog_1_method_10_code
def yX7_wireOf : MethodName := ⟨RX7, "wireOf", "(II)I"⟩
abbrev cX7_actOf : ByteArray := prog_1_method_11_code
def yX7_actOf : MethodName := ⟨RX7, "actOf", "(I)LFarfiles$Act;"⟩
abbrev cX7_hasObject : ByteArray := prog_1_method_12_code
def yX7_hasObject : MethodName := ⟨RX7, "hasObject", "(I)Z"⟩
abbrev cX7_hasDirectory : ByteArray := prog_1_method_13_code
def yX7_hasDirectory : MethodName := ⟨RX7, "hasDirectory", "(I)Z"⟩
abbrev cX7_type : ByteArray := prog_1_method_14_code
def yX7_type : MethodName := ⟨RX7, "type", "(C)I"⟩
abbrev cX7_erase : ByteArray := prog_1_method_16_code
def yX7_erase : MethodName := ⟨RX7, "erase", "()I"⟩
abbrev cX7_signAt : ByteArray := prog_1_method_18_code
def yX7_signAt : MethodName := ⟨RX7, "signAt", "(I)C"⟩
abbrev cX7_link : ByteArray := prog_1_method_19_code
def yX7_link : MethodName := ⟨RX7, "link", "(IIZ)Z"⟩
abbrev cX7_wire : ByteArray := prog_1_method_20_code
def yX7_wire : MethodName := ⟨RX7, "wire", "(IIZ)Z"⟩
abbrev cX7_near : ByteArray := prog_1_method_21_code
def yX7_near : MethodName := ⟨RX7, "near", "(I)I"⟩
abbrev cX7_refuse : ByteArray := prog_1_method_22_code
def yX7_refuse : MethodName := ⟨RX7, "refuse", "(C)V"⟩
abbrev cX7_callerOf : ByteArray := prog_1_method_23_code
def yX7_callerOf : MethodName := ⟨RX7, "callerOf", "(I)LFarfiles$Client;"⟩
abbrev cX7_lookAt : ByteArray := prog_1_method_24_code
def yX7_lookAt : MethodName := ⟨RX7, "lookAt", "(LFarfiles$Client;I)V"⟩
abbrev cX7_nextOf : ByteArray := prog_1_method_25_code
def yX7_nextOf : MethodName := ⟨RX7, "nextOf", "(LFarfiles$Client;II)I"⟩
abbrev cX7_go : ByteArray := prog_1_method_26_code
def yX7_go : MethodName := ⟨RX7, "go", "(LFarfiles$Client;LFarfiles$Path;I)I"⟩
abbrev cX7_goToDirectory : ByteArray := prog_1_method_27_code
def yX7_goToDirectory : MethodName := ⟨RX7, "goToDirectory", "(LFarfiles$Client;LFarfiles$Path;)I"⟩
abbrev cX7_goOn : ByteArray := prog_1_method_28_code
def yX7_goOn : MethodName := ⟨RX7, "goOn", "(LFarfiles$Client;LFarfiles$Path;I)I"⟩
abbrev cX7_refuseIfThere : ByteArray := prog_1_method_29_code
def yX7_refuseIfThere : MethodName := ⟨RX7, "refuseIfThere", "(LFarfiles$Client;II)V"⟩
abbrev cX7_refuseIfTooFew : ByteArray := prog_1_method_30_code
def yX7_refuseIfTooFew : MethodName := ⟨RX7, "refuseIfTooFew", "(I)V"⟩
abbrev cX7_takePath : ByteArray := prog_1_method_31_code
def yX7_takePath : MethodName := ⟨RX7, "takePath", "()I"⟩
abbrev cX7_takePathOfLetters : ByteArray := prog_1_method_32_code
def yX7_takePathOfLetters : MethodName := ⟨RX7, "takePathOfLetters", "()I"⟩
abbrev cX7_takeTwoPaths : ByteArray := prog_1_method_33_code
def yX7_takeTwoPaths : MethodName := ⟨RX7, "takeTwoPaths", "()I"⟩
abbrev cX7_enter : ByteArray := prog_1_method_34_code
def yX7_enter : MethodName := ⟨RX7, "enter", "(LFarfiles$Client;LFarfiles$Act;)I"⟩
abbrev cX7_bringSome : ByteArray := prog_1_method_35_code
def yX7_bringSome : MethodName := ⟨RX7, "bringSome", "(LFarfiles$Client;I)I"⟩
abbrev cX7_addEntry : ByteArray := prog_1_method_36_code
def yX7_addEntry : MethodName := ⟨RX7, "addEntry", "(LFarfiles$Client;III)V"⟩
abbrev cX7_cutEntries : ByteArray := prog_1_method_37_code
def yX7_cutEntries : MethodName := ⟨RX7, "cutEntries", "(LFarfiles$Client;III)V"⟩
abbrev cX7_makeIn : ByteArray := prog_1_method_38_code
def yX7_makeIn : MethodName := ⟨RX7, "makeIn", "(LFarfiles$Client;IZ)I"⟩
abbrev cX7_makeFile : ByteArray := prog_1_method_39_code
def yX7_makeFile : MethodName := ⟨RX7, "makeFile", "(I)I"⟩
abbrev cX7_makeDirectory : ByteArray := prog_1_method_40_code
def yX7_makeDirectory : MethodName := ⟨RX7, "makeDirectory", "(I)I"⟩
abbrev cX7_store : ByteArray := prog_1_method_41_code
def yX7_store : MethodName := ⟨RX7, "store", "(I)I"⟩
abbrev cX7_remove : ByteArray := prog_1_method_42_code
def yX7_remove : MethodName := ⟨RX7, "remove", "(I)I"⟩
abbrev cX7_rename : ByteArray := prog_1_method_43_code
def yX7_rename : MethodName := ⟨RX7, "rename", "(I)I"⟩
abbrev cX7_reason : ByteArray := prog_1_method_44_code
def yX7_reason : MethodName := ⟨RX7, "reason", "()C"⟩
abbrev cX7_tellOf : ByteArray := prog_1_method_45_code
def yX7_tellOf : MethodName := ⟨RX7, "tellOf", "(LFarfiles$ActSet;I)I"⟩
abbrev cX7_tellFound : ByteArray := prog_1_method_46_code
def yX7_tellFound : MethodName := ⟨RX7, "tellFound", "(LFarfiles$Client;Z)I"⟩
abbrev cX7_read : ByteArray := prog_1_method_47_code
def yX7_read : MethodName := ⟨RX7, "read", "(I)I"⟩
abbrev cX7_list : ByteArray := prog_1_method_48_code
def yX7_list : MethodName := ⟨RX7, "list", "(I)I"⟩
abbrev cX7_find : ByteArray := prog_1_method_49_code
def yX7_find : MethodName := ⟨RX7, "find", "(I)I"⟩
abbrev cX7_answer : ByteArray := prog_1_method_51_code
def yX7_answer : MethodName := ⟨RX7, "answer", "(I)I"⟩
abbrev cX7_answerObject : ByteArray := prog_1_method_52_code
def yX7_answerObject : MethodName := ⟨RX7, "answerObject", "(I)I"⟩
abbrev cX7_outgoing : ByteArray := prog_1_method_59_code
def yX7_outgoing : MethodName := ⟨RX7, "outgoing", "(I)I"⟩
abbrev cX7_bring : ByteArray := prog_1_method_60_code
def yX7_bring : MethodName := ⟨RX7, "bring", "(II)I"⟩
abbrev cX7_hear : ByteArray := prog_1_method_61_code
def yX7_hear : MethodName := ⟨RX7, "hear", "(II)I"⟩
abbrev cX7_known : ByteArray := prog_1_method_62_code
def yX7_known : MethodName := ⟨RX7, "known", "(I)I"⟩
abbrev cX7_isAlike : ByteArray := prog_1_method_64_code
def yX7_isAlike : MethodName := ⟨RX7, "isAlike", "(II)Z"⟩
abbrev cX7_serverTells : ByteArray := prog_1_method_65_code
def yX7_serverTells : MethodName := ⟨RX7, "serverTells", "(II)I"⟩
abbrev cX7_markWays : ByteArray := prog_1_method_67_code
def yX7_markWays : MethodName := ⟨RX7, "markWays", "(LFarfiles$ActSet;)V"⟩
abbrev cX7_markLost : ByteArray := prog_1_method_68_code
def yX7_markLost : MethodName := ⟨RX7, "markLost", "(LFarfiles$ActSet;[Z)V"⟩
abbrev cX7_lost : ByteArray := prog_1_method_69_code
def yX7_lost : MethodName := ⟨RX7, "lost", "(I)I"⟩
abbrev cX7_acts : ByteArray := prog_1_method_70_code
def yX7_acts : MethodName := ⟨RX7, "acts", "()I"⟩
abbrev cX7_actObject : ByteArray := prog_1_method_71_code
def yX7_actObject : MethodName := ⟨RX7, "actObject", "(I)I"⟩
abbrev cX7_actClient : ByteArray := prog_1_method_72_code
def yX7_actClient : MethodName := ⟨RX7, "actClient", "(I)I"⟩
abbrev cX7_actKind : ByteArray := prog_1_method_73_code
def yX7_actKind : MethodName := ⟨RX7, "actKind", "(I)C"⟩
abbrev cX7_hasSeen : ByteArray := prog_1_method_74_code
def yX7_hasSeen : MethodName := ⟨RX7, "hasSeen", "(II)Z"⟩
abbrev cX7_isHoldSound : ByteArray := prog_1_method_81_code
def yX7_isHoldSound : MethodName := ⟨RX7, "isHoldSound", "(LFarfiles$Client;)Z"⟩
abbrev cX7_isLostAlike : ByteArray := prog_1_method_82_code
def yX7_isLostAlike : MethodName := ⟨RX7, "isLostAlike", "(LFarfiles$ActSet;LFarfiles$ActSet;)Z"⟩
abbrev cX7_isSound : ByteArray := prog_1_method_83_code
def yX7_isSound : MethodName := ⟨RX7, "isSound", "()Z"⟩
def RX8 : String := "FarfilesModel$Act"
def TX8 : u_T := fun k => match k with
  | _ => ("", "", "", false)
def tyX8 : Nat → FieldType := fun k => match k with
  | _ => .int
abbrev wsX80 : List Cond := u_ws RX8 TX8 0
theorem nmX8 : ∀ a, a < 0 → ∀ b, b < 0 → a ≠ b → (TX8 a).2.1 ≠ (TX8 b).2.1 := by decide +kernel
theorem tyX8_ok : ∀ k, k < 0 → parseFieldDescriptor (TX8 k).2.2.1 = some (tyX8 k) := by decide +kernel
def RX9 : String := "FarfilesModel$Client"
def TX9 : u_T := fun k => match k with
  | _ => ("", "", "", false)
def tyX9 : Nat → FieldType := fun k => match k with
  | _ => .int
abbrev wsX90 : List Cond := u_ws RX9 TX9 0
theorem nmX9 : ∀ a, a < 0 → ∀ b, b < 0 → a ≠ b → (TX9 a).2.1 ≠ (TX9 b).2.1 := by decide +kernel
theorem tyX9_ok : ∀ k, k < 0 → parseFieldDescriptor (TX9 k).2.2.1 = some (tyX9 k) := by decide +kernel
def RX10 : String := "FarfilesModel$Entry"
def TX10 : u_T := fun k => match k with
  | _ => ("", "", "", false)
def tyX10 : Nat → FieldType := fun k => match k with
  | _ => .int
abbrev wsX100 : List Cond := u_ws RX10 TX10 0
theorem nmX10 : ∀ a, a < 0 → ∀ b, b < 0 → a ≠ b → (TX10 a).2.1 ≠ (TX10 b).2.1 := by decide +kernel
theorem tyX10_ok : ∀ k, k < 0 → parseFieldDescriptor (TX10 k).2.2.1 = some (tyX10 k) := by decide +kernel
def RX11 : String := "FarfilesModel$Hold"
def TX11 : u_T := fun k => match k with
  | _ => ("", "", "", false)
def tyX11 : Nat → FieldType := fun k => match k with
  | _ => .int
abbrev wsX110 : List Cond := u_ws RX11 TX11 0
theorem nmX11 : ∀ a, a < 0 → ∀ b, b < 0 → a ≠ b → (TX11 a).2.1 ≠ (TX11 b).2.1 := by decide +kernel
theorem tyX11_ok : ∀ k, k < 0 → parseFieldDescriptor (TX11 k).2.2.1 = some (tyX11 k) := by decide +kernel
def RX12 : String := "FarfilesModel$No"
def TX12 : u_T := fun k => match k with
  | _ => ("", "", "", false)
def tyX12 : Nat → FieldType := fun k => match k with
  | _ => .int
abbrev wsX120 : List Cond := u_ws RX12 TX12 0
theorem nmX12 : ∀ a, a < 0 → ∀ b, b < 0 → a ≠ b → (TX12 a).2.1 ≠ (TX12 b).2.1 := by decide +kernel
theorem tyX12_ok : ∀ k, k < 0 → parseFieldDescriptor (TX12 k).2.2.1 = some (tyX12 k) := by decide +kernel
def RX13 : String := "FarfilesModel$Read"
def TX13 : u_T := fun k => match k with
  | _ => ("", "", "", false)
def tyX13 : Nat → FieldType := fun k => match k with
  | _ => .int
abbrev wsX130 : List Cond := u_ws RX13 TX13 0
theorem nmX13 : ∀ a, a < 0 → ∀ b, b < 0 → a ≠ b → (TX13 a).2.1 ≠ (TX13 b).2.1 := by decide +kernel
theorem tyX13_ok : ∀ k, k < 0 → parseFieldDescriptor (TX13 k).2.2.1 = some (tyX13 k) := by decide +kernel
def RX14 : String := "FarfilesModel"
def TX14 : u_T := fun k => match k with
  | _ => ("", "", "", false)
def tyX14 : Nat → FieldType := fun k => match k with
  | _ => .int
abbrev wsX140 : List Cond := u_ws RX14 TX14 0
theorem nmX14 : ∀ a, a < 0 → ∀ b, b < 0 → a ≠ b → (TX14 a).2.1 ≠ (TX14 b).2.1 := by decide +kernel
theorem tyX14_ok : ∀ k, k < 0 → parseFieldDescriptor (TX14 k).2.2.1 = some (tyX14 k) := by decide +kernel
def RJx145de : String := "java/io/Serializable"
def TJx145de : u_T := fun k => match k with
  | _ => ("", "", "", false)
def tyJx145de : Nat → FieldType := fun k => match k with
  | _ => .int
theorem nmJx145de : ∀ a, a < 0 → ∀ b, b < 0 → a ≠ b → (TJx145de a).2.1 ≠ (TJx145de b).2.1 := by decide +kernel
theorem tyJx145de_ok : ∀ k, k < 0 → parseFieldDescriptor (TJx145de k).2.2.1 = some (tyJx145de k) := by decide +kernel
def RJ5 : String := "java/lang/AbstractStringBuilder"
def TJ5 : u_T := fun k => match k with
  | _ => ("", "", "", false)
def tyJ5 : Nat → FieldType := fun k => match k with
  | _ => .int
abbrev wsJ50 : List Cond := u_ws RJ5 TJ5 0
theorem nmJ5 : ∀ a, a < 0 → ∀ b, b < 0 → a ≠ b → (TJ5 a).2.1 ≠ (TJ5 b).2.1 := by decide +kernel
theorem tyJ5_ok : ∀ k, k < 0 → parseFieldDescriptor (TJ5 k).2.2.1 = some (tyJ5 k) := by decide +kernel
abbrev cJ5_init_d00df : ByteArray := prog_18_method_2_code
def yJ5_init_d00df : MethodName := ⟨RJ5, "<init>", "(I)V"⟩
abbrev cJ5_length_8abf5 : ByteArray := prog_18_method_6_code
def yJ5_length_8abf5 : MethodName := ⟨RJ5, "length", "()I"⟩
abbrev cJ5_ensureCapacityInternal_d00df : ByteArray := prog_18_method_9_code
def yJ5_ensureCapacityInternal_d00df : MethodName := ⟨RJ5, "ensureCapacityInternal", "(I)V"⟩
abbrev cJ5_newCapacity_0f7a4 : ByteArray := prog_18_method_10_code
def yJ5_newCapacity_0f7a4 : MethodName := ⟨RJ5, "newCapacity", "(I)I"⟩
abbrev cJ5_inflate_da8c8 : ByteArray := prog_18_method_11_code
def yJ5_inflate_da8c8 : MethodName := ⟨RJ5, "inflate", "()V"⟩
abbrev cJ5_append_cf1ce : ByteArray := prog_18_method_22_code
def yJ5_append_cf1ce : MethodName := ⟨RJ5, "append", "(Ljava/lang/String;)Ljava/lang/AbstractStringBuilder;"⟩
abbrev cJ5_appendNull_278bc : ByteArray := prog_18_method_26_code
def yJ5_appendNull_278bc : MethodName := ⟨RJ5, "appendNull", "()Ljava/lang/AbstractStringBuilder;"⟩
abbrev cJ5_append_3fe6f : ByteArray := prog_18_method_31_code
def yJ5_append_3fe6f : MethodName := ⟨RJ5, "append", "(C)Ljava/lang/AbstractStringBuilder;"⟩
abbrev cJ5_append_c97b9 : ByteArray := prog_18_method_32_code
def yJ5_append_c97b9 : MethodName := ⟨RJ5, "append", "(I)Ljava/lang/AbstractStringBuilder;"⟩
abbrev cJ5_getValue_6d5f1 : ByteArray := prog_18_method_64_code
def yJ5_getValue_6d5f1 : MethodName := ⟨RJ5, "getValue", "()[B"⟩
abbrev cJ5_isLatin1_aae02 : ByteArray := prog_18_method_68_code
def yJ5_isLatin1_aae02 : MethodName := ⟨RJ5, "isLatin1", "()Z"⟩
abbrev cJ5_inflateIfNeededFor_a7421 : ByteArray := prog_18_method_71_code
def yJ5_inflateIfNeededFor_a7421 : MethodName := ⟨RJ5, "inflateIfNeededFor", "(Ljava/lang/String;)V"⟩
abbrev cJ5_putStringAt_47b60 : ByteArray := prog_18_method_73_code
def yJ5_putStringAt_47b60 : MethodName := ⟨RJ5, "putStringAt", "(ILjava/lang/String;)V"⟩
def RJx2cfe8 : String := "java/lang/Appendable"
def TJx2cfe8 : u_T := fun k => match k with
  | _ => ("", "", "", false)
def tyJx2cfe8 : Nat → FieldType := fun k => match k with
  | _ => .int
theorem nmJx2cfe8 : ∀ a, a < 0 → ∀ b, b < 0 → a ≠ b → (TJx2cfe8 a).2.1 ≠ (TJx2cfe8 b).2.1 := by decide +kernel
theorem tyJx2cfe8_ok : ∀ k, k < 0 → parseFieldDescriptor (TJx2cfe8 k).2.2.1 = some (tyJx2cfe8 k) := by decide +kernel
def RJx9f9b0 : String := "java/lang/CharSequence"
def TJx9f9b0 : u_T := fun k => match k with
  | _ => ("", "", "", false)
def tyJx9f9b0 : Nat → FieldType := fun k => match k with
  | _ => .int
theorem nmJx9f9b0 : ∀ a, a < 0 → ∀ b, b < 0 → a ≠ b → (TJx9f9b0 a).2.1 ≠ (TJx9f9b0 b).2.1 := by decide +kernel
theorem tyJx9f9b0_ok : ∀ k, k < 0 → parseFieldDescriptor (TJx9f9b0 k).2.2.1 = some (tyJx9f9b0 k) := by decide +kernel
def RJx8e188 : String := "java/lang/Cloneable"
def TJx8e188 : u_T := fun k => match k with
  | _ => ("", "", "", false)
def tyJx8e188 : Nat → FieldType := fun k => match k with
  | _ => .int
theorem nmJx8e188 : ∀ a, a < 0 → ∀ b, b < 0 → a ≠ b → (TJx8e188 a).2.1 ≠ (TJx8e188 b).2.1 := by decide +kernel
theorem tyJx8e188_ok : ∀ k, k < 0 → parseFieldDescriptor (TJx8e188 k).2.2.1 = some (tyJx8e188 k) := by decide +kernel
def RJxb160c : String := "java/lang/Comparable"
def TJxb160c : u_T := fun k => match k with
  | _ => ("", "", "", false)
def tyJxb160c : Nat → FieldType := fun k => match k with
  | _ => .int
theorem nmJxb160c : ∀ a, a < 0 → ∀ b, b < 0 → a ≠ b → (TJxb160c a).2.1 ≠ (TJxb160c b).2.1 := by decide +kernel
theorem tyJxb160c_ok : ∀ k, k < 0 → parseFieldDescriptor (TJxb160c k).2.2.1 = some (tyJxb160c k) := by decide +kernel
def RJ6 : String := "java/lang/Integer"
def TJ6 : u_T := fun k => match k with
  | _ => ("", "", "", false)
def tyJ6 : Nat → FieldType := fun k => match k with
  | _ => .int
abbrev wsJ60 : List Cond := u_ws RJ6 TJ6 0
theorem nmJ6 : ∀ a, a < 0 → ∀ b, b < 0 → a ≠ b → (TJ6 a).2.1 ≠ (TJ6 b).2.1 := by decide +kernel
theorem tyJ6_ok : ∀ k, k < 0 → parseFieldDescriptor (TJ6 k).2.2.1 = some (tyJ6 k) := by decide +kernel
abbrev cJ6_getChars_ba4f3 : ByteArray := prog_27_method_12_code
def yJ6_getChars_ba4f3 : MethodName := ⟨RJ6, "getChars", "(II[B)I"⟩
abbrev cJ6_stringSize_0f7a4 : ByteArray := prog_27_method_13_code
def yJ6_stringSize_0f7a4 : MethodName := ⟨RJ6, "stringSize", "(I)I"⟩
abbrev cJ6_compare_7cf53 : ByteArray := prog_27_method_40_code
def yJ6_compare_7cf53 : MethodName := ⟨RJ6, "compare", "(II)I"⟩
def RJ13 : String := "java/lang/Long"
def TJ13 : u_T := fun k => match k with
  | _ => ("", "", "", false)
def tyJ13 : Nat → FieldType := fun k => match k with
  | _ => .int
abbrev wsJ130 : List Cond := u_ws RJ13 TJ13 0
theorem nmJ13 : ∀ a, a < 0 → ∀ b, b < 0 → a ≠ b → (TJ13 a).2.1 ≠ (TJ13 b).2.1 := by decide +kernel
theorem tyJ13_ok : ∀ k, k < 0 → parseFieldDescriptor (TJ13 k).2.2.1 = some (tyJ13 k) := by decide +kernel
abbrev cJ13_bitCount_95d88 : ByteArray := prog_28_method_50_code
def yJ13_bitCount_95d88 : MethodName := ⟨RJ13, "bitCount", "(J)I"⟩
def RJ9 : String := "java/lang/Math"
def TJ9 : u_T := fun k => match k with
  | _ => ("", "", "", false)
def tyJ9 : Nat → FieldType := fun k => match k with
  | _ => .int
abbrev wsJ90 : List Cond := u_ws RJ9 TJ9 0
theorem nmJ9 : ∀ a, a < 0 → ∀ b, b < 0 → a ≠ b → (TJ9 a).2.1 ≠ (TJ9 b).2.1 := by decide +kernel
theorem tyJ9_ok : ∀ k, k < 0 → parseFieldDescriptor (TJ9 k).2.2.1 = some (tyJ9 k) := by decide +kernel
abbrev cJ9_max_7cf53 : ByteArray := prog_29_method_65_code
def yJ9_max_7cf53 : MethodName := ⟨RJ9, "max", "(II)I"⟩
abbrev cJ9_min_7cf53 : ByteArray := prog_29_method_69_code
def yJ9_min_7cf53 : MethodName := ⟨RJ9, "min", "(II)I"⟩
def RJxd2413 : String := "java/lang/Number"
def TJxd2413 : u_T := fun k => match k with
  | _ => ("", "", "", false)
def tyJxd2413 : Nat → FieldType := fun k => match k with
  | _ => .int
theorem nmJxd2413 : ∀ a, a < 0 → ∀ b, b < 0 → a ≠ b → (TJxd2413 a).2.1 ≠ (TJxd2413 b).2.1 := by decide +kernel
theorem tyJxd2413_ok : ∀ k, k < 0 → parseFieldDescriptor (TJxd2413 k).2.2.1 = some (tyJxd2413 k) := by decide +kernel
def RJ0 : String := "java/lang/String"
def TJ0 : u_T := fun k => match k with
  | 0 => ("java/lang/String", "value", "[B", true)
  | 1 => ("java/lang/String", "coder", "B", true)
  | 2 => ("java/lang/String", "hash", "I", false)
  | _ => ("java/lang/String", "hashIsZero", "Z", false)
def tyJ0 : Nat → FieldType := fun k => match k with
  | 0 => .array .byte
  | 1 => .byte
  | 2 => .int
  | _ => .boolean
abbrev wsJ00 : List Cond := u_ws RJ0 TJ0 4
theorem nmJ0 : ∀ a, a < 4 → ∀ b, b < 4 → a ≠ b → (TJ0 a).2.1 ≠ (TJ0 b).2.1 := by decide +kernel
theorem tyJ0_ok : ∀ k, k < 4 → parseFieldDescriptor (TJ0 k).2.2.1 = some (tyJ0 k) := by decide +kernel
abbrev cJ0_init_81219 : ByteArray := prog_32_method_53_code
def yJ0_init_81219 : MethodName := ⟨RJ0, "<init>", "(Ljava/lang/StringBuilder;)V"⟩
abbrev cJ0_length_8abf5 : ByteArray := prog_32_method_54_code
def yJ0_length_8abf5 : MethodName := ⟨RJ0, "length", "()I"⟩
abbrev cJ0_charAt_5068e : ByteArray := prog_32_method_56_code
def yJ0_charAt_5068e : MethodName := ⟨RJ0, "charAt", "(I)C"⟩
abbrev cJ0_getBytes_840e7 : ByteArray := prog_32_method_147_code
def yJ0_getBytes_840e7 : MethodName := ⟨RJ0, "getBytes", "([BIB)V"⟩
abbrev cJ0_init_db425 : ByteArray := prog_32_method_150_code
def yJ0_init_db425 : MethodName := ⟨RJ0, "<init>", "(Ljava/lang/AbstractStringBuilder;Ljava/lang/Void;)V"⟩
abbrev cJ0_coder_7d493 : ByteArray := prog_32_method_152_code
def yJ0_coder_7d493 : MethodName := ⟨RJ0, "coder", "()B"⟩
abbrev cJ0_isLatin1_aae02 : ByteArray := prog_32_method_154_code
def yJ0_isLatin1_aae02 : MethodName := ⟨RJ0, "isLatin1", "()Z"⟩
abbrev cJ0_checkIndex_df160 : ByteArray := prog_32_method_155_code
def yJ0_checkIndex_df160 : MethodName := ⟨RJ0, "checkIndex", "(II)V"⟩
abbrev cJ0_checkBoundsOffCount_cabcc : ByteArray := prog_32_method_157_code
def yJ0_checkBoundsOffCount_cabcc : MethodName := ⟨RJ0, "checkBoundsOffCount", "(III)I"⟩
abbrev cJ0_checkBoundsBeginEnd_23922 : ByteArray := prog_32_method_158_code
def yJ0_checkBoundsBeginEnd_23922 : MethodName := ⟨RJ0, "checkBoundsBeginEnd", "(III)V"⟩
def RJ4 : String := "java/lang/StringBuilder"
def TJ4 : u_T := fun k => match k with
  | 0 => ("java/lang/AbstractStringBuilder", "value", "[B", false)
  | 1 => ("java/lang/AbstractStringBuilder", "coder", "B", false)
  | 2 => ("java/lang/AbstractStringBuilder", "maybeLatin1", "Z", false)
  | _ => ("java/lang/AbstractStringBuilder", "count", "I", false)
def tyJ4 : Nat → FieldType := fun k => match k with
  | 0 => .array .byte
  | 1 => .byte
  | 2 => .boolean
  | _ => .int
abbrev wsJ40 : List Cond := u_ws RJ4 TJ4 4
theorem nmJ4 : ∀ a, a < 4 → ∀ b, b < 4 → a ≠ b → (TJ4 a).2.1 ≠ (TJ4 b).2.1 := by decide +kernel
theorem tyJ4_ok : ∀ k, k < 4 → parseFieldDescriptor (TJ4 k).2.2.1 = some (tyJ4 k) := by decide +kernel
abbrev cJ4_init_da8c8 : ByteArray := prog_33_method_1_code
def yJ4_init_da8c8 : MethodName := ⟨RJ4, "<init>", "()V"⟩
abbrev cJ4_append_15ec4 : ByteArray := prog_33_method_7_code
def yJ4_append_15ec4 : MethodName := ⟨RJ4, "append", "(Ljava/lang/String;)Ljava/lang/StringBuilder;"⟩
abbrev cJ4_append_cf468 : ByteArray := prog_33_method_14_code
def yJ4_append_cf468 : MethodName := ⟨RJ4, "append", "(C)Ljava/lang/StringBuilder;"⟩
abbrev cJ4_append_bf812 : ByteArray := prog_33_method_15_code
def yJ4_append_bf812 : MethodName := ⟨RJ4, "append", "(I)Ljava/lang/StringBuilder;"⟩
abbrev cJ4_toString_0e30d : ByteArray := prog_33_method_42_code
def yJ4_toString_0e30d : MethodName := ⟨RJ4, "toString", "()Ljava/lang/String;"⟩
abbrev cJ4_length_8abf5 : ByteArray := prog_33_method_93_code
def yJ4_length_8abf5 : MethodName := ⟨RJ4, "length", "()I"⟩
def RJ1 : String := "java/lang/StringLatin1"
def TJ1 : u_T := fun k => match k with
  | _ => ("", "", "", false)
def tyJ1 : Nat → FieldType := fun k => match k with
  | _ => .int
abbrev wsJ10 : List Cond := u_ws RJ1 TJ1 0
theorem nmJ1 : ∀ a, a < 0 → ∀ b, b < 0 → a ≠ b → (TJ1 a).2.1 ≠ (TJ1 b).2.1 := by decide +kernel
theorem tyJ1_ok : ∀ k, k < 0 → parseFieldDescriptor (TJ1 k).2.2.1 = some (tyJ1 k) := by decide +kernel
abbrev cJ1_charAt_3b067 : ByteArray := prog_34_method_2_code
def yJ1_charAt_3b067 : MethodName := ⟨RJ1, "charAt", "([BI)C"⟩
abbrev cJ1_canEncode_fc78d : ByteArray := prog_34_method_3_code
def yJ1_canEncode_fc78d : MethodName := ⟨RJ1, "canEncode", "(C)Z"⟩
abbrev cJ1_inflate_0e8fd : ByteArray := prog_34_method_50_code
def yJ1_inflate_0e8fd : MethodName := ⟨RJ1, "inflate", "([BI[BII)V"⟩
def RJ2 : String := "java/lang/StringUTF16"
def TJ2 : u_T := fun k => match k with
  | _ => ("", "", "", false)
def tyJ2 : Nat → FieldType := fun k => match k with
  | _ => .int
abbrev wsJ20 : List Cond := u_ws RJ2 TJ2 0
theorem nmJ2 : ∀ a, a < 0 → ∀ b, b < 0 → a ≠ b → (TJ2 a).2.1 ≠ (TJ2 b).2.1 := by decide +kernel
theorem tyJ2_ok : ∀ k, k < 0 → parseFieldDescriptor (TJ2 k).2.2.1 = some (tyJ2 k) := by decide +kernel
abbrev cJ2_newBytesFor_77867 : ByteArray := prog_35_method_2_code
def yJ2_newBytesFor_77867 : MethodName := ⟨RJ2, "newBytesFor", "(I)[B"⟩
abbrev cJ2_newBytesLength_0f7a4 : ByteArray := prog_35_method_3_code
def yJ2_newBytesLength_0f7a4 : MethodName := ⟨RJ2, "newBytesLength", "(I)I"⟩
abbrev cJ2_putChar_b72d1 : ByteArray := prog_35_method_4_code
def yJ2_putChar_b72d1 : MethodName := ⟨RJ2, "putChar", "([BII)V"⟩
abbrev cJ2_getChar_3b067 : ByteArray := prog_35_method_5_code
def yJ2_getChar_3b067 : MethodName := ⟨RJ2, "getChar", "([BI)C"⟩
abbrev cJ2_length_9d52b : ByteArray := prog_35_method_6_code
def yJ2_length_9d52b : MethodName := ⟨RJ2, "length", "([B)I"⟩
abbrev cJ2_coderFromArrayLen_85cad : ByteArray := prog_35_method_15_code
def yJ2_coderFromArrayLen_85cad : MethodName := ⟨RJ2, "coderFromArrayLen", "([BI)B"⟩
abbrev cJ2_compress_39247 : ByteArray := prog_35_method_17_code
def yJ2_compress_39247 : MethodName := ⟨RJ2, "compress", "([BII)[B"⟩
abbrev cJ2_compress_5af95 : ByteArray := prog_35_method_22_code
def yJ2_compress_5af95 : MethodName := ⟨RJ2, "compress", "([BI[BII)I"⟩
abbrev cJ2_putCharSB_b72d1 : ByteArray := prog_35_method_71_code
def yJ2_putCharSB_b72d1 : MethodName := ⟨RJ2, "putCharSB", "([BII)V"⟩
abbrev cJ2_getChars_46870 : ByteArray := prog_35_method_77_code
def yJ2_getChars_46870 : MethodName := ⟨RJ2, "getChars", "(III[B)I"⟩
abbrev cJ2_putCharsAt_cd4e5 : ByteArray := prog_35_method_81_code
def yJ2_putCharsAt_cd4e5 : MethodName := ⟨RJ2, "putCharsAt", "([BICCCC)I"⟩
abbrev cJ2_charAt_3b067 : ByteArray := prog_35_method_83_code
def yJ2_charAt_3b067 : MethodName := ⟨RJ2, "charAt", "([BI)C"⟩
abbrev cJ2_inflate_0e8fd : ByteArray := prog_35_method_86_code
def yJ2_inflate_0e8fd : MethodName := ⟨RJ2, "inflate", "([BI[BII)V"⟩
abbrev cJ2_getChars_ba4f3 : ByteArray := prog_35_method_89_code
def yJ2_getChars_ba4f3 : MethodName := ⟨RJ2, "getChars", "(II[B)I"⟩
abbrev cJ2_checkIndex_2214a : ByteArray := prog_35_method_91_code
def yJ2_checkIndex_2214a : MethodName := ⟨RJ2, "checkIndex", "(I[B)V"⟩
abbrev cJ2_checkBoundsBeginEnd_d044e : ByteArray := prog_35_method_93_code
def yJ2_checkBoundsBeginEnd_d044e : MethodName := ⟨RJ2, "checkBoundsBeginEnd", "(II[B)V"⟩
abbrev cJ2_checkBoundsOffCount_d044e : ByteArray := prog_35_method_94_code
def yJ2_checkBoundsOffCount_d044e : MethodName := ⟨RJ2, "checkBoundsOffCount", "(II[B)V"⟩
def RJ10 : String := "java/lang/System"
def TJ10 : u_T := fun k => match k with
  | _ => ("", "", "", false)
def tyJ10 : Nat → FieldType := fun k => match k with
  | _ => .int
abbrev wsJ100 : List Cond := u_ws RJ10 TJ10 0
theorem nmJ10 : ∀ a, a < 0 → ∀ b, b < 0 → a ≠ b → (TJ10 a).2.1 ≠ (TJ10 b).2.1 := by decide +kernel
theorem tyJ10_ok : ∀ k, k < 0 → parseFieldDescriptor (TJ10 k).2.2.1 = some (tyJ10 k) := by decide +kernel
def RJxfd54e : String := "java/lang/constant/Constable"
def TJxfd54e : u_T := fun k => match k with
  | _ => ("", "", "", false)
def tyJxfd54e : Nat → FieldType := fun k => match k with
  | _ => .int
theorem nmJxfd54e : ∀ a, a < 0 → ∀ b, b < 0 → a ≠ b → (TJxfd54e a).2.1 ≠ (TJxfd54e b).2.1 := by decide +kernel
theorem tyJxfd54e_ok : ∀ k, k < 0 → parseFieldDescriptor (TJxfd54e k).2.2.1 = some (tyJxfd54e k) := by decide +kernel
def RJx3cf43 : String := "java/lang/constant/ConstantDesc"
def TJx3cf43 : u_T := fun k => match k with
  | _ => ("", "", "", false)
def tyJx3cf43 : Nat → FieldType := fun k => match k with
  | _ => .int
theorem nmJx3cf43 : ∀ a, a < 0 → ∀ b, b < 0 → a ≠ b → (TJx3cf43 a).2.1 ≠ (TJx3cf43 b).2.1 := by decide +kernel
theorem tyJx3cf43_ok : ∀ k, k < 0 → parseFieldDescriptor (TJx3cf43 k).2.2.1 = some (tyJx3cf43 k) := by decide +kernel
def RJ7 : String := "java/util/Arrays"
def TJ7 : u_T := fun k => match k with
  | _ => ("", "", "", false)
def tyJ7 : Nat → FieldType := fun k => match k with
  | _ => .int
abbrev wsJ70 : List Cond := u_ws RJ7 TJ7 0
theorem nmJ7 : ∀ a, a < 0 → ∀ b, b < 0 → a ≠ b → (TJ7 a).2.1 ≠ (TJ7 b).2.1 := by decide +kernel
theorem tyJ7_ok : ∀ k, k < 0 → parseFieldDescriptor (TJ7 k).2.2.1 = some (tyJ7 k) := by decide +kernel
abbrev cJ7_copyOf_9075b : ByteArray := prog_41_method_121_code
def yJ7_copyOf_9075b : MethodName := ⟨RJ7, "copyOf", "([BI)[B"⟩
abbrev cJ7_checkLength_df160 : ByteArray := prog_41_method_131_code
def yJ7_checkLength_df160 : MethodName := ⟨RJ7, "checkLength", "(II)V"⟩
abbrev cJ7_copyOfRange_39247 : ByteArray := prog_41_method_132_code
def yJ7_copyOfRange_39247 : MethodName := ⟨RJ7, "copyOfRange", "([BII)[B"⟩
abbrev cJ7_copyOfRangeByte_39247 : ByteArray := prog_41_method_133_code
def yJ7_copyOfRangeByte_39247 : MethodName := ⟨RJ7, "copyOfRangeByte", "([BII)[B"⟩
def RJ8 : String := "jdk/internal/util/ArraysSupport"
def TJ8 : u_T := fun k => match k with
  | _ => ("", "", "", false)
def tyJ8 : Nat → FieldType := fun k => match k with
  | _ => .int
abbrev wsJ80 : List Cond := u_ws RJ8 TJ8 0
theorem nmJ8 : ∀ a, a < 0 → ∀ b, b < 0 → a ≠ b → (TJ8 a).2.1 ≠ (TJ8 b).2.1 := by decide +kernel
theorem tyJ8_ok : ∀ k, k < 0 → parseFieldDescriptor (TJ8 k).2.2.1 = some (tyJ8 k) := by decide +kernel
abbrev cJ8_newLength_cabcc : ByteArray := prog_43_method_27_code
def yJ8_newLength_cabcc : MethodName := ⟨RJ8, "newLength", "(III)I"⟩
abbrev cJ8_hugeLength_7cf53 : ByteArray := prog_43_method_28_code
def yJ8_hugeLength_7cf53 : MethodName := ⟨RJ8, "hugeLength", "(II)I"⟩
def RJ3 : String := "jdk/internal/util/Preconditions"
def TJ3 : u_T := fun k => match k with
  | _ => ("", "", "", false)
def tyJ3 : Nat → FieldType := fun k => match k with
  | _ => .int
abbrev wsJ30 : List Cond := u_ws RJ3 TJ3 0
theorem nmJ3 : ∀ a, a < 0 → ∀ b, b < 0 → a ≠ b → (TJ3 a).2.1 ≠ (TJ3 b).2.1 := by decide +kernel
theorem tyJ3_ok : ∀ k, k < 0 → parseFieldDescriptor (TJ3 k).2.2.1 = some (tyJ3 k) := by decide +kernel
abbrev cJ3_checkIndex_8e157 : ByteArray := prog_44_method_11_code
def yJ3_checkIndex_8e157 : MethodName := ⟨RJ3, "checkIndex", "(IILjava/util/function/BiFunction;)I"⟩
abbrev cJ3_checkFromToIndex_8c36e : ByteArray := prog_44_method_12_code
def yJ3_checkFromToIndex_8c36e : MethodName := ⟨RJ3, "checkFromToIndex", "(IIILjava/util/function/BiFunction;)I"⟩
abbrev cJ3_checkFromIndexSize_8c36e : ByteArray := prog_44_method_13_code
def yJ3_checkFromIndexSize_8c36e : MethodName := ⟨RJ3, "checkFromIndexSize", "(IIILjava/util/function/BiFunction;)I"⟩
def RL : String := "FarfilesLaw"
def TL : u_T := fun k => match k with
  | 0 => ("FarfilesLaw", "script", "[I", false)
  | 1 => ("FarfilesLaw", "at", "I", false)
  | 2 => ("FarfilesLaw", "seed", "I", false)
  | 3 => ("FarfilesLaw", "x", "LFarfiles;", true)
  | _ => ("FarfilesLaw", "files", "I", false)
def tyL : Nat → FieldType := fun k => match k with
  | 0 => .array .int
  | 1 => .int
  | 2 => .int
  | 3 => .object "Farfiles"
  | _ => .int
abbrev wsL0 : List Cond := u_ws RL TL 5
theorem nmL : ∀ a, a < 5 → ∀ b, b < 5 → a ≠ b → (TL a).2.1 ≠ (TL b).2.1 := by decide +kernel
theorem tyL_ok : ∀ k, k < 5 → parseFieldDescriptor (TL k).2.2.1 = some (tyL k) := by decide +kernel
abbrev cL_init : ByteArray := method_1_code
def yL_init : MethodName := ⟨RL, "<init>", "()V"⟩
abbrev cL_cell : ByteArray := method_2_code
def yL_cell : MethodName := ⟨RL, "cell", "([II)I"⟩
abbrev cL_draw : ByteArray := method_3_code
def yL_draw : MethodName := ⟨RL, "draw", "(I)I"⟩
abbrev cL_stirred : ByteArray := method_4_code
def yL_stirred : MethodName := ⟨RL, "stirred", "([I)I"⟩
abbrev cL_mixed : ByteArray := method_5_code
def yL_mixed : MethodName := ⟨RL, "mixed", "(II)I"⟩
abbrev cL_types : ByteArray := method_6_code
def yL_types : MethodName := ⟨RL, "types", "(Ljava/lang/String;)V"⟩
abbrev cL_word : ByteArray := method_7_code
def yL_word : MethodName := ⟨RL, "word", "()Ljava/lang/String;"⟩
abbrev cL_name : ByteArray := method_8_code
def yL_name : MethodName := ⟨RL, "name", "()Ljava/lang/String;"⟩
abbrev cL_links : ByteArray := method_9_code
def yL_links : MethodName := ⟨RL, "links", "(IZ)V"⟩
abbrev cL_brings : ByteArray := method_10_code
def yL_brings : MethodName := ⟨RL, "brings", "(I)V"⟩
abbrev cL_hears : ByteArray := method_11_code
def yL_hears : MethodName := ⟨RL, "hears", "()Z"⟩
abbrev cL_isText : ByteArray := method_12_code
def yL_isText : MethodName := ⟨RL, "isText", "(ILjava/lang/String;Ljava/lang/String;)Z"⟩
abbrev cL_areStored : ByteArray := method_13_code
def yL_areStored : MethodName := ⟨RL, "areStored", "()Z"⟩
abbrev cL_isLost : ByteArray := method_14_code
def yL_isLost : MethodName := ⟨RL, "isLost", "()Z"⟩
abbrev cL_isRenamed : ByteArray := method_15_code
def yL_isRenamed : MethodName := ⟨RL, "isRenamed", "()Z"⟩
abbrev cL_holdsAll : ByteArray := method_16_code
def yL_holdsAll : MethodName := ⟨RL, "holdsAll", "([I)Z"⟩
abbrev cL_law : ByteArray := code
def yL_law : MethodName := ⟨RL, "law", "([I)Z"⟩
abbrev vwCl : List vw_C := [(RJ0, TJ0, 4), (RJ4, TJ4, 4), (RX0, TX0, 8), (RX1, TX1, 1), (RX2, TX2, 4), (RX3, TX3, 12), (RX4, TX4, 2), (RX5, TX5, 5), (RX6, TX6, 5), (RX7, TX7, 16), (RL, TL, 5)]
end
section
/-! THE SMALL MACHINE: cells in a tree, values that may be numbers not known but in a range; a method's code as a chain of steps (each step a function of what comes behind it). It is run by the kernel; that it does what the bytecode does stands in 11. -/
/-- a value: a whole number (as 32 bits), a cell's path ([]: null), a long (as 64 bits), or a number o + s * d of a drawn d -/
abbrev fxV : Type := Nat ⊕ (List Bool ⊕ (Nat ⊕ (Nat × Int × Int)))
/-- a cell: may it be written?; an object (its class's number, its fields), or an array (its kind, its elements) -/
abbrev fxE : Type := (Nat × List fxV) ⊕ (Nat × List fxV)
abbrev fxC : Type := Bool × fxE
def fxT : Nat → Type
  | 0 => Option fxC
  | n + 1 => fxT n × fxT n
noncomputable def fx_get : (n : Nat) → fxT n → List Bool → Option fxC :=
  fun n => Nat.rec (motive := fun n => fxT n → List Bool → Option fxC) (fun t p => List.rec (motive := fun _ => Option fxC) t (fun _ _ _ => none) p)
    (fun _ ih t p => List.rec (motive := fun _ => Option fxC) none (fun b q _ => Bool.rec (motive := fun _ => Option fxC) (ih t.1 q) (ih t.2 q) b) p) n
noncomputable def fx_set : (n : Nat) → fxT n → List Bool → fxC → fxT n :=
  fun n => Nat.rec (motive := fun n => fxT n → List Bool → fxC → fxT n) (fun t p c => List.rec (motive := fun _ => Option fxC) (some c) (fun _ _ _ => t) p)
    (fun n ih t p c => List.rec (motive := fun _ => fxT n × fxT n) t (fun b q _ => Bool.rec (motive := fun _ => fxT n × fxT n) (ih t.1 q c, t.2) (t.1, ih t.2 q c) b) p) n
noncomputable def fx_blank : (n : Nat) → fxT n := fun n => Nat.rec (motive := fun n => fxT n) none (fun _ t => (t, t)) n
theorem fx_get_len : ∀ (n : Nat) (t : fxT n) (p : List Bool) (c : fxC), fx_get n t p = some c → p.length = n := by
  intro n
  induction n with
  | zero => intro t p c h; cases p with
    | nil => rfl
    | cons b q => exact nomatch h
  | succ n ih => intro t p c h; cases p with
    | nil => exact nomatch h
    | cons b q => cases b with
      | false => exact congrArg (· + 1) (ih t.1 q c h)
      | true => exact congrArg (· + 1) (ih t.2 q c h)
theorem fx_get_set : ∀ (n : Nat) (t : fxT n) (p : List Bool) (c : fxC), p.length = n → fx_get n (fx_set n t p c) p = some c := by
  intro n
  induction n with
  | zero => intro t p c h; cases p with
    | nil => rfl
    | cons b q => exact nomatch h
  | succ n ih => intro t p c h; cases p with
    | nil => exact nomatch h
    | cons b q => cases b with
      | false => exact ih t.1 q c (Nat.succ.inj h)
      | true => exact ih t.2 q c (Nat.succ.inj h)
theorem fx_get_ne : ∀ (n : Nat) (t : fxT n) (p q : List Bool) (c : fxC), p.length = n → p ≠ q → fx_get n (fx_set n t p c) q = fx_get n t q := by
  intro n
  induction n with
  | zero => intro t p q c h hn; cases p with
    | nil => cases q with
      | nil => exact absurd rfl hn
      | cons b r => rfl
    | cons b r => exact nomatch h
  | succ n ih => intro t p q c h hn; cases p with
    | nil => exact nomatch h
    | cons b r => cases q with
      | nil => cases b <;> rfl
      | cons b2 r2 => cases b with
        | false => cases b2 with
          | false => exact ih t.1 r r2 c (Nat.succ.inj h) (fun e => hn (by rw [e]))
          | true => rfl
        | true => cases b2 with
          | false => rfl
          | true => exact ih t.2 r r2 c (Nat.succ.inj h) (fun e => hn (by rw [e]))
/-- the path of the i-th cell -/
noncomputable def fx_bits : Nat → Nat → List Bool := fun n => Nat.rec (motive := fun _ => Nat → List Bool) (fun _ => []) (fun n ih i => Nat.testBit i n :: ih i) n
theorem fx_bits_len : ∀ (n i : Nat), (fx_bits n i).length = n := by
  intro n
  induction n with
  | zero => intro i; rfl
  | succ n ih => intro i; exact congrArg (· + 1) (ih i)
theorem fx_bits_test : ∀ (n i j : Nat), fx_bits n i = fx_bits n j → ∀ k, k < n → i.testBit k = j.testBit k := by
  intro n
  induction n with
  | zero => intro i j _ k hk; exact absurd hk (Nat.not_lt_zero k)
  | succ n ih =>
    intro i j h k hk
    have h' : Nat.testBit i n :: fx_bits n i = Nat.testBit j n :: fx_bits n j := h
    rcases Nat.lt_or_ge k n with q | q
    · exact ih i j (List.cons.inj h').2 k q
    · have : k = n := by omega
      subst this
      exact (List.cons.inj h').1
theorem fx_bits_inj {n i j : Nat} (hi : i < 2 ^ n) (hj : j < 2 ^ n) (h : fx_bits n i = fx_bits n j) : i = j := by
  refine Nat.eq_of_testBit_eq (fun k => ?_)
  rcases Nat.lt_or_ge k n with q | q
  · exact fx_bits_test n i j h k q
  · rw [Nat.testBit_lt_two_pow (Nat.lt_of_lt_of_le hi (Nat.pow_le_pow_right (by decide) q)), Nat.testBit_lt_two_pow (Nat.lt_of_lt_of_le hj (Nat.pow_le_pow_right (by decide) q))]
/-- lists: the i-th, and another in its place -/
noncomputable def fx_nth {α : Type} : List α → Nat → Option α := fun L => List.rec (motive := fun _ => Nat → Option α) (fun _ => none) (fun a _ ih i => Nat.rec (motive := fun _ => Option α) (some a) (fun j _ => ih j) i) L
noncomputable def fx_upd {α : Type} : List α → Nat → α → List α := fun L => List.rec (motive := fun _ => Nat → α → List α) (fun _ _ => []) (fun a t ih i v => Nat.rec (motive := fun _ => List α) (v :: t) (fun j _ => a :: ih j v) i) L
theorem fx_nth_eq {α : Type} : ∀ (L : List α) (i : Nat), fx_nth L i = L[i]? := by
  intro L
  induction L with
  | nil => intro i; rfl
  | cons a t ih => intro i; cases i with
    | zero => rfl
    | succ j => exact ih j
theorem fx_upd_eq {α : Type} : ∀ (L : List α) (i : Nat) (v : α), fx_upd L i v = L.set i v := by
  intro L
  induction L with
  | nil => intro i v; rfl
  | cons a t ih => intro i v; cases i with
    | zero => rfl
    | succ j => exact congrArg (a :: ·) (ih j v)
/-- the machine's state: cells, how many places of the tree are taken, cells and slots made, what will be drawn -/
abbrev fxS : Type := fxT 9 × (Nat × (Nat × (Nat × List (Nat × fxV))))
/-- a method's end: what it answers, or what it throws -/
abbrev fxO : Type := (Option fxV ⊕ Nat) × fxS
abbrev fxK0 : Type := List fxV → List fxV → fxS → Option fxO
abbrev fxK : Type := (Nat → fxK0) → fxK0
abbrev fxF : Type := List fxV → fxS → Option fxO
/-! ranges -/
def fx_rk (k : Nat) : Option (Int × Int) := match k % 8 with
  | 0 => some (0, 25)
  | 1 => some (0, 9)
  | 2 => some (10, 99)
  | 3 => some (48, 57)
  | 4 => some (48, 57)
  | _ => none
def fx_con (n : Nat) : Int := if n < 2147483648 then (n : Int) else (n : Int) - 4294967296
def fx_rng : fxV → Option (Int × Int)
  | .inl n => if n < 4294967296 then some (fx_con n, fx_con n) else none
  | .inr (.inr (.inr (k, o, s))) => match fx_rk k with
    | some (a, b) => if 0 ≤ s then some (o + s * a, o + s * b) else some (o + s * b, o + s * a)
    | none => none
  | _ => none
def fx_in32 (q : Int × Int) : Bool := decide (-2147483648 ≤ q.1) && decide (q.2 < 2147483648)
def fx_ltS (x y : fxV) : Option Bool := match fx_rng x, fx_rng y with
  | some a, some b => if fx_in32 a && fx_in32 b then (if a.2 < b.1 then some true else if b.2 ≤ a.1 then some false else none) else none
  | _, _ => none
noncomputable def fx_lt (x y : fxV) : Option Bool := Sum.rec (motive := fun _ => Option Bool)
  (fun a => Sum.rec (motive := fun _ => Option Bool) (fun b => Bool.rec (motive := fun _ => Option Bool) (fx_ltS (.inl a) (.inl b)) (some (Nat.blt a b)) (Bool.and (Nat.blt a 2147483648) (Nat.blt b 2147483648))) (fun b => fx_ltS (.inl a) (.inr b)) y)
  (fun a => fx_ltS (.inr a) y) x
def fx_isI : fxV → Bool
  | .inl _ => true
  | .inr (.inr (.inr _)) => true
  | _ => false
def fx_eqS (x y : fxV) : Option Bool := if x = y ∧ fx_isI x = true then some true else match fx_rng x, fx_rng y with
  | some a, some b => if fx_in32 a && fx_in32 b then (if a.2 < b.1 then some false else if b.2 < a.1 then some false else none) else none
  | _, _ => none
noncomputable def fx_eq (x y : fxV) : Option Bool := Sum.rec (motive := fun _ => Option Bool)
  (fun a => Sum.rec (motive := fun _ => Option Bool) (fun b => Bool.rec (motive := fun _ => Option Bool) (fx_eqS (.inl a) (.inl b)) (some (Nat.beq a b)) (Bool.and (Nat.blt a 4294967296) (Nat.blt b 4294967296))) (fun b => fx_eqS (.inl a) (.inr b)) y)
  (fun a => fx_eqS (.inr a) y) x
end
section
/-! THE STEPS. st: the operand stack; L: the locals; S: the state. self: where a jump goes. -/
noncomputable def fx_stuck : fxK := fun _ _ _ _ => none
/-- a number, or null, or a constant cell, is pushed -/
noncomputable def fx_push (v : fxV) (k : fxK) : fxK := fun self st L S => k self (v :: st) L S
/-- what kind a value is: 0 a whole number, 1 a reference, 2 a long, 3 not to be used -/
noncomputable def fx_kd (v : fxV) : Nat := Sum.rec (motive := fun _ => Nat) (fun _ => 0) (fun w => Sum.rec (motive := fun _ => Nat) (fun _ => 1) (fun z => Sum.rec (motive := fun _ => Nat) (fun _ => 2) (fun q => Bool.rec (motive := fun _ => Nat) 0 3 (Nat.beq q.1 7)) z) w) v
noncomputable def fx_load (d i : Nat) (k : fxK) : fxK := fun self st L S => Option.rec (motive := fun _ => Option fxO) none (fun v => Bool.rec (motive := fun _ => Option fxO) none (k self (v :: st) L S) (Nat.beq (fx_kd v) d)) (fx_nth L i)
noncomputable def fx_store (d i : Nat) (k : fxK) : fxK := fun self st L S => List.rec (motive := fun _ => Option fxO) none (fun v r _ => Bool.rec (motive := fun _ => Option fxO) none (k self r (fx_upd L i v) S) (Nat.beq (fx_kd v) d)) st
noncomputable def fx_goto (b : Nat) : fxK := fun self st L S => self b st L S
/-- two values become one -/
noncomputable def fx_bin (f : fxV → fxV → Option fxV) (k : fxK) : fxK := fun self st L S => List.rec (motive := fun _ => Option fxO) none (fun y r _ => List.rec (motive := fun _ => Option fxO) none (fun x r2 _ => Option.rec (motive := fun _ => Option fxO) none (fun v => k self (v :: r2) L S) (f x y)) r) st
noncomputable def fx_un (f : fxV → Option fxV) (k : fxK) : fxK := fun self st L S => List.rec (motive := fun _ => Option fxO) none (fun x r _ => Option.rec (motive := fun _ => Option fxO) none (fun v => k self (v :: r) L S) (f x)) st
noncomputable def fx_iinc (i : Nat) (c : fxV) (f : fxV → fxV → Option fxV) (k : fxK) : fxK := fun self st L S => Option.rec (motive := fun _ => Option fxO) none (fun v => Option.rec (motive := fun _ => Option fxO) none (fun w => k self st (fx_upd L i w) S) (f v c)) (fx_nth L i)
/-- two values are compared -/
noncomputable def fx_if2 (f : fxV → fxV → Option Bool) (kt kf : fxK) : fxK := fun self st L S => List.rec (motive := fun _ => Option fxO) none (fun y r _ => List.rec (motive := fun _ => Option fxO) none (fun x r2 _ => Option.rec (motive := fun _ => Option fxO) none (fun b => Bool.rec (motive := fun _ => Option fxO) (kf self r2 L S) (kt self r2 L S) b) (f x y)) r) st
noncomputable def fx_if1 (f : fxV → Option Bool) (kt kf : fxK) : fxK := fun self st L S => List.rec (motive := fun _ => Option fxO) none (fun x r _ => Option.rec (motive := fun _ => Option fxO) none (fun b => Bool.rec (motive := fun _ => Option fxO) (kf self r L S) (kt self r L S) b) (f x)) st
noncomputable def fx_dup (k : fxK) : fxK := fun self st L S => List.rec (motive := fun _ => Option fxO) none (fun x r _ => Bool.rec (motive := fun _ => Option fxO) (k self (x :: x :: r) L S) none (Nat.beq (fx_kd x) 2)) st
noncomputable def fx_pop (k : fxK) : fxK := fun self st L S => List.rec (motive := fun _ => Option fxO) none (fun x r _ => Bool.rec (motive := fun _ => Option fxO) (k self r L S) none (Nat.beq (fx_kd x) 2)) st
noncomputable def fx_dupx1 (k : fxK) : fxK := fun self st L S => List.rec (motive := fun _ => Option fxO) none (fun x r _ => List.rec (motive := fun _ => Option fxO) none (fun y r2 _ => Bool.rec (motive := fun _ => Option fxO) (Bool.rec (motive := fun _ => Option fxO) (k self (x :: y :: x :: r2) L S) none (Nat.beq (fx_kd y) 2)) none (Nat.beq (fx_kd x) 2)) r) st
noncomputable def fx_dup2 (k : fxK) : fxK := fun self st L S => List.rec (motive := fun _ => Option fxO) none (fun x r _ => List.rec (motive := fun _ => Option fxO) none (fun y r2 _ => Bool.rec (motive := fun _ => Option fxO) (Bool.rec (motive := fun _ => Option fxO) (k self (x :: y :: x :: y :: r2) L S) none (Nat.beq (fx_kd y) 2)) none (Nat.beq (fx_kd x) 2)) r) st
/-- the cell at a value -/
noncomputable def fx_at (v : fxV) (S : fxS) : Option fxC := Sum.rec (motive := fun _ => Option fxC) (fun _ => none) (fun w => Sum.rec (motive := fun _ => Option fxC) (fun p => fx_get 9 S.1 p) (fun _ => none) w) v
noncomputable def fx_path (v : fxV) : List Bool := Sum.rec (motive := fun _ => List Bool) (fun _ => []) (fun w => Sum.rec (motive := fun _ => List Bool) (fun p => p) (fun _ => []) w) v
/-- an object of class ci: its fields; an array of kind t: its elements -/
noncomputable def fx_obj (ci : Nat) (c : fxE) : Option (List fxV) := Sum.rec (motive := fun _ => Option (List fxV)) (fun o => Bool.rec (motive := fun _ => Option (List fxV)) none (some o.2) (Nat.beq o.1 ci)) (fun _ => none) c
noncomputable def fx_arr (t : Nat) (c : fxE) : Option (List fxV) := Sum.rec (motive := fun _ => Option (List fxV)) (fun _ => none) (fun o => Bool.rec (motive := fun _ => Option (List fxV)) none (some o.2) (Nat.beq o.1 t)) c
noncomputable def fx_getf (ci j : Nat) (k : fxK) : fxK := fun self st L S => List.rec (motive := fun _ => Option fxO) none (fun x r _ =>
  Option.rec (motive := fun _ => Option fxO) none (fun c => Option.rec (motive := fun _ => Option fxO) none (fun fs => Option.rec (motive := fun _ => Option fxO) none (fun v => k self (v :: r) L S) (fx_nth fs j)) (fx_obj ci c.2)) (fx_at x S)) st
/-- does a value fit a field or array of kind d: 0 int, 1 char, 2 boolean, 3 byte, 4 long, 5 and on references -/
noncomputable def fx_fit (d : Nat) (v : fxV) : Bool := match d with
  | 0 => Nat.beq (fx_kd v) 0
  | 1 => match fx_rng v with
    | some q => decide (0 ≤ q.1) && decide (q.2 ≤ 65535)
    | none => false
  | 2 => match v with
    | .inl n => Nat.ble n 1
    | _ => false
  | 3 => match fx_rng v with
    | some q => decide (-128 ≤ q.1) && decide (q.2 ≤ 127)
    | none => false
  | 4 => Nat.beq (fx_kd v) 2
  | _ => Nat.beq (fx_kd v) 1
noncomputable def fx_putf (ci j d : Nat) (k : fxK) : fxK := fun self st L S => List.rec (motive := fun _ => Option fxO) none (fun v r _ => List.rec (motive := fun _ => Option fxO) none (fun x r2 _ =>
  Option.rec (motive := fun _ => Option fxO) none (fun c => Bool.rec (motive := fun _ => Option fxO) none (Option.rec (motive := fun _ => Option fxO) none (fun fs => Bool.rec (motive := fun _ => Option fxO) none
    (k self r2 L (fx_set 9 S.1 (fx_path x) (true, .inl (ci, fx_upd fs j v)), S.2)) (Bool.and (fx_fit d v) (Nat.blt j fs.length))) (fx_obj ci c.2)) c.1) (fx_at x S)) r) st
noncomputable def fx_ald (t : Nat) (k : fxK) : fxK := fun self st L S => List.rec (motive := fun _ => Option fxO) none (fun i r _ => List.rec (motive := fun _ => Option fxO) none (fun x r2 _ =>
  Option.rec (motive := fun _ => Option fxO) none (fun c => Option.rec (motive := fun _ => Option fxO) none (fun xs => Sum.rec (motive := fun _ => Option fxO) (fun n => Option.rec (motive := fun _ => Option fxO) none (fun v => k self (v :: r2) L S) (fx_nth xs n)) (fun _ => none) i) (fx_arr t c.2)) (fx_at x S)) r) st
noncomputable def fx_ast (t : Nat) (k : fxK) : fxK := fun self st L S => List.rec (motive := fun _ => Option fxO) none (fun v r _ => List.rec (motive := fun _ => Option fxO) none (fun i r2 _ => List.rec (motive := fun _ => Option fxO) none (fun x r3 _ =>
  Option.rec (motive := fun _ => Option fxO) none (fun c => Bool.rec (motive := fun _ => Option fxO) none (Option.rec (motive := fun _ => Option fxO) none (fun xs => Sum.rec (motive := fun _ => Option fxO) (fun n => Bool.rec (motive := fun _ => Option fxO) none
    (k self r3 L (fx_set 9 S.1 (fx_path x) (true, .inr (t, fx_upd xs n v)), S.2)) (Bool.and (fx_fit t v) (Nat.blt n xs.length))) (fun _ => none) i) (fx_arr t c.2)) c.1) (fx_at x S)) r2) r) st
noncomputable def fx_alen (k : fxK) : fxK := fun self st L S => List.rec (motive := fun _ => Option fxO) none (fun x r _ =>
  Option.rec (motive := fun _ => Option fxO) none (fun c => Sum.rec (motive := fun _ => Option fxO) (fun _ => none) (fun a => k self (.inl a.2.length :: r) L S) c.2) (fx_at x S)) st
/-- a new cell with n slots -/
noncomputable def fx_mk (S : fxS) (e : fxE) (n : Nat) : fxS := (fx_set 9 S.1 (fx_bits 9 S.2.1) (true, e), (Nat.succ S.2.1, (Nat.succ S.2.2.1, (Nat.add S.2.2.2.1 n, S.2.2.2.2))))
noncomputable def fx_new (ci n : Nat) (fs : List fxV) (k : fxK) : fxK := fun self st L S => Bool.rec (motive := fun _ => Option fxO) none (k self (.inr (.inl (fx_bits 9 S.2.1)) :: st) L (fx_mk S (.inl (ci, fs)) n)) (Nat.blt S.2.1 512)
def fx_def (t : Nat) : fxV := if t < 4 then .inl 0 else if t = 4 then .inr (.inr (.inl 0)) else .inr (.inl [])
noncomputable def fx_newa (t : Nat) (k : fxK) : fxK := fun self st L S => List.rec (motive := fun _ => Option fxO) none (fun x r _ => Sum.rec (motive := fun _ => Option fxO) (fun n => Bool.rec (motive := fun _ => Option fxO) none
  (k self (.inr (.inl (fx_bits 9 S.2.1)) :: r) L (fx_mk S (.inr (t, List.replicate n (fx_def t))) n)) (Bool.and (Nat.blt n 65536) (Nat.blt S.2.1 512))) (fun _ => none) x) st
/-- the first n of the stack, turned round, and what is behind them -/
noncomputable def fx_args : Nat → List fxV → List fxV → Option (List fxV × List fxV) := fun n => Nat.rec (motive := fun _ => List fxV → List fxV → Option (List fxV × List fxV)) (fun a st => some (a, st))
  (fun _ ih a st => List.rec (motive := fun _ => Option (List fxV × List fxV)) none (fun v r _ => ih (v :: a) r) st) n
/-- at most four are left below -/
noncomputable def fx_few (st : List fxV) : Bool := Nat.ble st.length 4
/-- a call of n arguments (the receiver among them) that doesn't throw -/
noncomputable def fx_call (f : fxF) (n : Nat) (k : fxK) : fxK := fun self st L S => Option.rec (motive := fun _ => Option fxO) none (fun q => Bool.rec (motive := fun _ => Option fxO) none
  (Option.rec (motive := fun _ => Option fxO) none (fun o => Sum.rec (motive := fun _ => Option fxO) (fun v => Option.rec (motive := fun _ => Option fxO) (k self q.2 L o.2) (fun w => k self (w :: q.2) L o.2) v) (fun _ => none) o.1) (f q.1 S)) (fx_few q.2)) (fx_args n [] st)
/-- .. that may throw: then so does the caller -/
noncomputable def fx_callX (f : fxF) (n : Nat) (k : fxK) : fxK := fun self st L S => Option.rec (motive := fun _ => Option fxO) none (fun q => Bool.rec (motive := fun _ => Option fxO) none
  (Option.rec (motive := fun _ => Option fxO) none (fun o => Sum.rec (motive := fun _ => Option fxO) (fun v => Option.rec (motive := fun _ => Option fxO) (k self q.2 L o.2) (fun w => k self (w :: q.2) L o.2) v) (fun e => some (.inr e, o.2)) o.1) (f q.1 S)) (fx_few q.2)) (fx_args n [] st)
noncomputable def fx_ret (d : Nat) : fxK := fun _ st _ S => List.rec (motive := fun _ => Option fxO) none (fun v _ _ => Bool.rec (motive := fun _ => Option fxO) none (some (.inl (some v), S)) (fx_fit d v)) st
noncomputable def fx_retv : fxK := fun _ _ _ S => some (.inl none, S)
/-- a method: its code by the numbers of the places to which it jumps; the locals behind the arguments are blank -/
noncomputable def fx_run (tb : List fxK) (fuel : Nat) : Nat → fxK0 := Nat.rec (motive := fun _ => Nat → fxK0) (fun _ _ _ _ => none) (fun _ ih b st L S => Option.rec (motive := fun _ => Option fxO) none (fun k => k ih st L S) (fx_nth tb b)) fuel
def fx_no : fxV := .inr (.inr (.inr (7, 0, 0)))
noncomputable def fx_fn (tb : List fxK) (fuel nL : Nat) : fxF := fun vs S => fx_run tb fuel 0 [] (vs ++ List.replicate (nL - vs.length) fx_no) S
/-! numbers -/
def fx_norm (z : Int) : Nat := (z % 4294967296).toNat
/-- on known numbers, by the machine's own words -/
def fx_i2 (f : Int32 → Int32 → Int32) (a b : Nat) : fxV := .inl (f (nI a) (nI b)).toBitVec.toNat
def fx_inq (q : Option (Int × Int)) (a b : Int) : Bool := match q with
  | some q => decide (a ≤ q.1) && decide (q.2 ≤ b)
  | none => false
def fx_addS : fxV → fxV → Option fxV
  | .inl a, .inl b => some (fx_i2 (· + ·) a b)
  | .inl a, .inr (.inr (.inr (k, o, s))) => some (.inr (.inr (.inr (k, fx_con (a % 4294967296) + o, s))))
  | .inr (.inr (.inr (k, o, s))), .inl a => some (.inr (.inr (.inr (k, o + fx_con (a % 4294967296), s))))
  | _, _ => none
noncomputable def fx_add (x y : fxV) : Option fxV := Sum.rec (motive := fun _ => Option fxV)
  (fun a => Sum.rec (motive := fun _ => Option fxV) (fun b => some (.inl (Nat.mod (Nat.add a b) 4294967296))) (fun b => fx_addS (.inl a) (.inr b)) y)
  (fun a => fx_addS (.inr a) y) x

def fx_c2 (f : Int32 → Int32 → Int32) : fxV → fxV → Option fxV
  | .inl a, .inl b => some (fx_i2 f a b)
  | _, _ => none
def fx_c1 (f : Int32 → Int32) : fxV → Option fxV
  | .inl a => some (.inl (f (nI a)).toBitVec.toNat)
  | _ => none
def fx_sub : fxV → fxV → Option fxV
  | .inl a, .inl b => some (fx_i2 (· - ·) a b)
  | .inr (.inr (.inr (k, o, s))), .inl a => some (.inr (.inr (.inr (k, o - fx_con (a % 4294967296), s))))
  | _, _ => none
def fx_mul : fxV → fxV → Option fxV
  | .inl a, .inl b => some (.inl (Nat.mod (Nat.mul a b) 4294967296))
  | _, _ => none
def fx_and : fxV → fxV → Option fxV
  | .inl a, .inl b => some (.inl (Nat.land a b))
  | .inr a, .inl b => if b = 255 ∧ fx_inq (fx_rng (.inr a)) 0 255 = true then some (.inr a) else none
  | _, _ => none
def fx_or : fxV → fxV → Option fxV
  | .inl a, .inl b => some (.inl (Nat.lor a b))
  | .inl a, .inr (.inr (.inr (k, o, s))) => if a % 65536 = 0 ∧ a < 2147483648 ∧ fx_inq (fx_rng (.inr (.inr (.inr (k, o, s))))) 0 65535 = true then some (.inr (.inr (.inr (k, (a : Int) + o, s)))) else none
  | .inr (.inr (.inr q)), .inl b => if b = 0 then some (.inr (.inr (.inr q))) else none
  | _, _ => none
def fx_shl : fxV → fxV → Option fxV
  | .inl a, .inl b => some (fx_i2 (fun x y => x <<< (y &&& 31)) a b)
  | .inr (.inr (.inr (k, o, s))), .inl b => if b = 8 then some (.inr (.inr (.inr (k, o * 256, s * 256)))) else none
  | _, _ => none
def fx_shr : fxV → fxV → Option fxV
  | .inl a, .inl b => some (fx_i2 (fun x y => x >>> (y &&& 31)) a b)
  | .inr a, .inl b => match fx_rng (.inr a) with
    | some q => if b = 16 ∧ 0 ≤ q.1 ∧ q.2 < 2147483648 ∧ q.1 / 65536 = q.2 / 65536 then some (.inl (q.1 / 65536).toNat) else none
    | none => none
  | _, _ => none
def fx_ushr : fxV → fxV → Option fxV
  | .inl a, .inl b => some (fx_i2 (fun x y => (x.toUInt32 >>> (y.toUInt32 &&& Int32.toUInt32 31)).toInt32) a b)
  | .inr a, .inl b => if b = 8 ∧ fx_inq (fx_rng (.inr a)) 0 255 = true then some (.inl 0) else none
  | _, _ => none
def fx_i2c : fxV → Option fxV
  | .inl a => some (.inl (Nat.mod a 65536))
  | .inr a => if fx_inq (fx_rng (.inr a)) 0 65535 = true then some (.inr a) else none
def fx_i2b : fxV → Option fxV
  | .inl a => some (.inl (nI a).toInt8.toInt32.toBitVec.toNat)
  | .inr a => if fx_inq (fx_rng (.inr a)) 0 127 = true then some (.inr a) else none
def fx_neg : fxV → Option fxV
  | .inl a => some (.inl (- nI a).toBitVec.toNat)
  | .inr (.inr (.inr (k, o, s))) => some (.inr (.inr (.inr (k, -o, -s))))
  | _ => none
/-! longs -/
def fx_l2 (f : Int64 → Int64 → Int64) : fxV → fxV → Option fxV
  | .inr (.inr (.inl a)), .inr (.inr (.inl b)) => some (.inr (.inr (.inl (f (lN a) (lN b)).toBitVec.toNat)))
  | _, _ => none
def fx_li (f : Int64 → Int32 → Int64) : fxV → fxV → Option fxV
  | .inr (.inr (.inl a)), .inl b => some (.inr (.inr (.inl (f (lN a) (nI b)).toBitVec.toNat)))
  | _, _ => none
def fx_l2i : fxV → Option fxV
  | .inr (.inr (.inl a)) => some (.inl (lN a).toInt32.toBitVec.toNat)
  | _ => none
def fx_i2l : fxV → Option fxV
  | .inl a => some (.inr (.inr (.inl (nI a).toInt64.toBitVec.toNat)))
  | _ => none
/-- against null -/
def fx_isNull : fxV → Option Bool
  | .inr (.inl []) => some true
  | .inr (.inl (_ :: _)) => some false
  | _ => none
end
section
/-! WHAT THE SMALL MACHINE'S STATES STAND FOR. -/
/-- the launch, the law's own start, where its new cells begin, the classes' numbers, the classes, the array classes, the draws' values, the draws -/
abbrev fxG : Type := Launch × (State × (Nat × (va_G × (List vw_C × ((Nat → ClassId) × ((Nat → Nat) × (Nat → Nat)))))))
abbrev fg_l (G : fxG) : Launch := G.1
abbrev fg_s (G : fxG) : State := G.2.1
abbrev fg_lo (G : fxG) : Nat := G.2.2.1
abbrev fg_D (G : fxG) : va_G := G.2.2.2.1
abbrev fg_cl (G : fxG) : List vw_C := G.2.2.2.2.1
abbrev fg_cT (G : fxG) : Nat → ClassId := G.2.2.2.2.2.1
abbrev fg_dk (G : fxG) : Nat → Nat := G.2.2.2.2.2.2.1
abbrev fg_R (G : fxG) : Nat → Nat := G.2.2.2.2.2.2.2
def fx_den (G : fxG) (ad : List Bool → Nat) : fxV → Value
  | .inl n => .int (nI n)
  | .inr (.inl []) => .null
  | .inr (.inl (b :: p)) => .ref (ad (b :: p))
  | .inr (.inr (.inl n)) => .long (lN n)
  | .inr (.inr (.inr (k, o, s))) => .int (Int32.ofInt (o + s * (fg_dk G k : Int)))
def fx_dI (G : fxG) (ad : List Bool → Nat) (v : fxV) : Int32 := match fx_den G ad v with
  | .int x => x
  | _ => 0
def fx_dL (G : fxG) (ad : List Bool → Nat) (v : fxV) : Int64 := match fx_den G ad v with
  | .long x => x
  | _ => 0
def fx_dR (G : fxG) (ad : List Bool → Nat) (v : fxV) : Option Nat := match fx_den G ad v with
  | .ref x => some x
  | _ => none
def fx_elm (G : fxG) (ad : List Bool → Nat) (t : Nat) (xs : List fxV) : vp_A :=
  (xs.length, if t < 4 then .inl (fun j => fx_dI G ad (xs.getD j (.inl 0))) else if t = 4 then .inr (.inl (fun j => fx_dL G ad (xs.getD j (.inl 0)))) else .inr (.inr (.inr (.inr (fun j => fx_dR G ad (xs.getD j (.inl 0)))))))
def fx_cel (G : fxG) (ad : List Bool → Nat) : fxE → va_E
  | .inl (ci, fs) => .inr (ci, fs.map (fx_den G ad))
  | .inr (t, xs) => .inl (fg_cT G t, fx_elm G ad t xs)
noncomputable def fx_ce (G : fxG) (ad : List Bool → Nat) (M : fxT 9) (p : List Bool) : va_E := match fx_get 9 M p with
  | some c => fx_cel G ad c.2
  | none => .inr (0, [])
/-- the kinds of arrays -/
def fx_ty : Nat → FieldType
  | 0 => .int
  | 1 => .char
  | 2 => .boolean
  | 3 => .byte
  | 4 => .long
  | 5 => .object "Farfiles$Act"
  | 6 => .object "Farfiles$ActSet"
  | _ => .object "Farfiles$Client"
def fx_tys (G : fxG) : List (ClassId × FieldType) := [(fg_cT G 0, .int), (fg_cT G 1, .char), (fg_cT G 2, .boolean), (fg_cT G 3, .byte), (fg_cT G 4, .long), (fg_cT G 5, .object "Farfiles$Act"), (fg_cT G 6, .object "Farfiles$ActSet"), (fg_cT G 7, .object "Farfiles$Client")]
/-- a reference is one of a cell -/
def fx_ok (M : fxT 9) (v : fxV) : Prop := ∀ b p, v = .inr (.inl (b :: p)) → fx_get 9 M (b :: p) ≠ none
def fx_oks (M : fxT 9) (L : List fxV) : Prop := ∀ v ∈ L, fx_ok M v
def fx_dom (M M' : fxT 9) : Prop := ∀ p, fx_get 9 M p ≠ none → fx_get 9 M' p ≠ none
def fx_agr (M : fxT 9) (ad ad' : List Bool → Nat) : Prop := ∀ p, fx_get 9 M p ≠ none → ad' p = ad p
def fx_vals : fxE → List fxV
  | .inl o => o.2
  | .inr o => o.2
/-- a cell that stands for one of the heap's (kind 99: nothing is said of it) -/
def fx_says : fxE → Prop
  | .inl _ => True
  | .inr o => o.1 ≠ 99
theorem fx_ok_dom {M M' : fxT 9} {v : fxV} (h : fx_ok M v) (hd : fx_dom M M') : fx_ok M' v := fun b p e => hd _ (h b p e)
theorem fx_oks_dom {M M' : fxT 9} {L : List fxV} (h : fx_oks M L) (hd : fx_dom M M') : fx_oks M' L := fun v hv => fx_ok_dom (h v hv) hd
theorem fx_dom_rf {M : fxT 9} : fx_dom M M := fun _ h => h
theorem fx_dom_tr {M M' M2 : fxT 9} (h : fx_dom M M') (h2 : fx_dom M' M2) : fx_dom M M2 := fun p q => h2 p (h p q)
theorem fx_agr_rf {M : fxT 9} {ad : List Bool → Nat} : fx_agr M ad ad := fun _ _ => rfl
theorem fx_agr_tr {M M' : fxT 9} {ad ad' ad2 : List Bool → Nat} (hd : fx_dom M M') (h : fx_agr M ad ad') (h2 : fx_agr M' ad' ad2) : fx_agr M ad ad2 := fun p q => (h2 p (hd p q)).trans (h p q)
theorem fx_den_agr {G : fxG} {M : fxT 9} {ad ad' : List Bool → Nat} {v : fxV} (h : fx_ok M v) (ha : fx_agr M ad ad') : fx_den G ad' v = fx_den G ad v := by
  rcases v with n | (_ | ⟨b, p⟩) | n | ⟨k, o, s⟩
  · rfl
  · rfl
  · exact congrArg Value.ref (ha _ (h b p rfl))
  · rfl
  · rfl
theorem fx_dens_agr {G : fxG} {M : fxT 9} {ad ad' : List Bool → Nat} {L : List fxV} (h : fx_oks M L) (ha : fx_agr M ad ad') : L.map (fx_den G ad') = L.map (fx_den G ad) :=
  List.map_congr_left fun v hv => fx_den_agr (h v hv) ha
theorem fx_cel_agr {G : fxG} {M : fxT 9} {ad ad' : List Bool → Nat} {e : fxE} (h : fx_oks M (fx_vals e)) (ha : fx_agr M ad ad') : fx_cel G ad' e = fx_cel G ad e := by
  have hg : ∀ xs : List fxV, fx_oks M xs → ∀ j, fx_den G ad' (xs.getD j (.inl 0)) = fx_den G ad (xs.getD j (.inl 0)) := by
    intro xs hx j
    rw [List.getD_eq_getElem?_getD]
    cases hj : xs[j]? with
    | none => rfl
    | some v => exact fx_den_agr (hx v (List.mem_of_getElem? hj)) ha
  rcases e with ⟨ci, fs⟩ | ⟨t, xs⟩
  · exact congrArg (fun z => Sum.inr (ci, z)) (fx_dens_agr h ha)
  · have hx : fx_oks M xs := h
    have e1 : fx_elm G ad' t xs = fx_elm G ad t xs := by
      simp only [fx_elm, fx_dI, fx_dL, fx_dR, hg xs hx]
    exact congrArg (fun z => Sum.inl (fg_cT G t, z)) e1
/-- the heap holds the state's cells -/
def fxI (G : fxG) (ad : List Bool → Nat) (S : fxS) (H : Heap) : Prop :=
  (fg_lo G ≤ H.size ∧ ∀ q : Nat, q < fg_lo G → H[q]? = (fg_s G).heap[q]?) ∧
  (∀ p c, fx_get 9 S.1 p = some c → (fx_says c.2 → va_at (fg_D G) (fg_cl G) (ad p, fx_cel G ad c.2) H) ∧ (c.1 = false → ad p < fg_lo G) ∧ fx_oks S.1 (fx_vals c.2) ∧ (c.1 = true → fx_says c.2)) ∧
  (∃ ps : List (List Bool), va_D (fun q => fg_lo G ≤ q) (ps.map fun p => (ad p, fx_ce G ad S.1 p)) ∧ (∀ p c, fx_get 9 S.1 p = some c → c.1 = true → p ∈ ps) ∧ ∀ p ∈ ps, ∃ c, fx_get 9 S.1 p = some (true, c)) ∧
  (∀ i, S.2.1 ≤ i → i < 512 → fx_get 9 S.1 (fx_bits 9 i) = none) ∧
  (∀ (j m : Nat) (v : fxV), S.2.2.2.2[j]? = some (m, v) → fx_den G ad v = .int (nI (fg_R G j % m)) ∧ fx_kd v = 0)
theorem fx_map_set {α β : Type} {ps : List α} {g g' : α → β} {q0 : Nat} {p : α} (hq : ps[q0]? = some p) (hne : ∀ i, i ≠ q0 → ps[i]? ≠ some p) (hg : ∀ q, q ≠ p → g' q = g q) : (ps.map g).set q0 (g' p) = ps.map g' := by
  apply List.ext_getElem?
  intro i
  rw [List.getElem?_set, List.getElem?_map, List.getElem?_map]
  by_cases h : q0 = i
  · subst h
    obtain ⟨hl, he⟩ := List.getElem?_eq_some_iff.mp hq
    simp [hl, he]
  · rw [if_neg h]
    cases hi : ps[i]? with
    | none => rfl
    | some x => exact congrArg some (hg x (fun e => hne i (fun e2 => h e2.symm) (by rw [hi, e]))).symm
end
section
/-! THE JUDGEMENT: from a place of a method's code, a step chain that comes to an end does what the bytecode does. -/
/-- the locals -/
noncomputable def fx_ll (G : fxG) (ad : List Bool → Nat) : Nat → List fxV → List (Nat × Value)
  | _, [] => []
  | i, v :: t => if fx_kd v = 3 then fx_ll G ad (i + 1) t else (i, fx_den G ad v) :: fx_ll G ad (i + 1) t
theorem fx_ll_mem {G : fxG} {ad : List Bool → Nat} : ∀ (L : List fxV) (i : Nat) (q : Nat × Value), q ∈ fx_ll G ad i L ↔ ∃ j v, L[j]? = some v ∧ fx_kd v ≠ 3 ∧ q = (i + j, fx_den G ad v) := by
  intro L
  induction L with
  | nil => intro i q; simp [fx_ll]
  | cons a t ih =>
    intro i q
    have key : (∃ j v, (a :: t)[j]? = some v ∧ fx_kd v ≠ 3 ∧ q = (i + j, fx_den G ad v)) ↔ (fx_kd a ≠ 3 ∧ q = (i, fx_den G ad a)) ∨ ∃ j v, t[j]? = some v ∧ fx_kd v ≠ 3 ∧ q = (i + 1 + j, fx_den G ad v) := by
      constructor
      · rintro ⟨j, v, h1, h2, h3⟩
        cases j with
        | zero => left; obtain rfl : a = v := by simpa using h1
                  exact ⟨h2, by simpa using h3⟩
        | succ j => right; exact ⟨j, v, by simpa using h1, h2, by rw [h3]; congr 1; omega⟩
      · rintro (⟨h1, h2⟩ | ⟨j, v, h1, h2, h3⟩)
        · exact ⟨0, a, by simp, h1, by simpa using h2⟩
        · exact ⟨j + 1, v, by simpa using h1, h2, by rw [h3]; congr 1; omega⟩
    rw [key, fx_ll]
    by_cases h : fx_kd a = 3
    · rw [if_pos h, ih]
      simp [h]
    · rw [if_neg h, List.mem_cons, ih]
      simp [h]
def fxL (G : fxG) (ad : List Bool → Nat) (nL : Nat) (ls : Array Slot) (L : List fxV) : Prop := lv_has ls nL (fx_ll G ad 0 L) ∧ L.length = nL ∧ ∀ v ∈ L, fx_kd v ≠ 2
theorem fxL_at {G : fxG} {ad : List Bool → Nat} {nL : Nat} {ls : Array Slot} {L : List fxV} (h : fxL G ad nL ls L) {i : Nat} {v : fxV} (hi : L[i]? = some v) (hk : fx_kd v ≠ 3) : ls[i]? = some (.val (fx_den G ad v)) :=
  h.1.2.2 (i, fx_den G ad v) ((fx_ll_mem L 0 _).mpr ⟨i, v, hi, hk, by rw [Nat.zero_add]⟩)
theorem fx_cat1 {G : fxG} {ad : List Bool → Nat} {v : fxV} (h : fx_kd v ≠ 2) : (fx_den G ad v).category = 1 := by
  rcases v with n | (_ | ⟨b, p⟩) | n | ⟨k, o, s⟩
  · rfl
  · rfl
  · rfl
  · exact absurd rfl h
  · rfl
theorem fxL_set {G : fxG} {ad : List Bool → Nat} {nL : Nat} {ls' : Array Slot} {L : List fxV} {i : Nat} {v : fxV} {w : Value} (h : fxL G ad nL ls' L ∨ True) (hl : L.length = nL) (h2 : ∀ v ∈ L, fx_kd v ≠ 2) (hv : fx_kd v ≠ 2) (hw : w = fx_den G ad v)
    (h' : lv_has ls' nL ((i, w) :: (fx_ll G ad 0 L).filter (fun q => !(q.1 == i) && !(q.1 + 1 == i && q.2.category == 2)))) : fxL G ad nL ls' (fx_upd L i v) := by
  subst hw
  rw [fx_upd_eq]
  refine ⟨⟨h'.1, h'.2.1, fun q hq => ?_⟩, by rw [List.length_set]; exact hl, fun x hx => ?_⟩
  · obtain ⟨j, x, h3, h4, rfl⟩ := (fx_ll_mem _ _ _).mp hq
    refine h'.2.2 (0 + j, fx_den G ad x) ?_
    rw [List.getElem?_set] at h3
    by_cases hj : i = j
    · rw [if_pos hj] at h3
      subst hj
      split at h3
      · obtain rfl := Option.some.inj h3
        rw [Nat.zero_add]
        exact List.mem_cons_self
      · exact nomatch h3
    · rw [if_neg hj] at h3
      refine List.mem_cons_of_mem _ (List.mem_filter.mpr ⟨(fx_ll_mem L 0 _).mpr ⟨j, x, h3, h4, rfl⟩, ?_⟩)
      have hc := fx_cat1 (G := G) (ad := ad) (h2 x (List.mem_of_getElem? h3))
      simp [hc]
      omega
  · rcases List.mem_or_eq_of_mem_set hx with h | h
    · exact h2 x h
    · rw [h]; exact hv
theorem fxL_agr {G : fxG} {M : fxT 9} {ad ad' : List Bool → Nat} {nL : Nat} {ls : Array Slot} {L : List fxV} (h : fxL G ad nL ls L) (ho : fx_oks M L) (ha : fx_agr M ad ad') : fxL G ad' nL ls L := by
  refine ⟨⟨h.1.1, h.1.2.1, fun q hq => ?_⟩, h.2⟩
  obtain ⟨j, x, h3, h4, rfl⟩ := (fx_ll_mem _ _ _).mp hq
  rw [fx_den_agr (ho x (List.mem_of_getElem? h3)) ha]
  exact h.1.2.2 _ ((fx_ll_mem L 0 _).mpr ⟨j, x, h3, h4, rfl⟩)
/-- the cells that a method may write: the law's own -/
abbrev fxA (G : fxG) : Nat → Prop := fun q => fg_lo G ≤ q
/-- a method's start, its end by an answer, its end by a throw -/
def fxPc (G : fxG) (ad : List Bool → Nat) (vs : List fxV) (S : fxS) : Array Value → State → Prop := fun a U => a = (vs.map (fx_den G ad)).toArray ∧ (fg_s G).WarmedH U.vm ∧ fxI G ad S U.heap ∧ fx_oks S.1 vs
def fxQc (G : fxG) (ad : List Bool → Nat) (M : fxT 9) (o : fxO) : Array Value → State → Outcome → State → Prop := fun _ st oc t =>
  ∃ (ad' : List Bool → Nat) (v : Option fxV), o.1 = .inl v ∧ oc = .returned (v.map (fx_den G ad')) ∧ fx_agr M ad ad' ∧ fx_dom M o.2.1 ∧ fxI G ad' o.2 t.heap ∧ (∀ w, v = some w → fx_ok o.2.1 w ∧ fx_kd w ≠ 3) ∧ va_F (fxA G) st t
def fxXC (G : fxG) (ad : List Bool → Nat) (M : fxT 9) (o : fxO) : String → State → State → Prop := fun E st t =>
  ∃ ad' : List Bool → Nat, o.1 = .inr 0 ∧ E = "java/lang/UnsupportedOperationException" ∧ fx_agr M ad ad' ∧ fx_dom M o.2.1 ∧ fxI G ad' o.2 t.heap ∧ va_F (fxA G) st t
/-- what a method is, for its code: does it throw, its bytes, its locals, what it answers, its class, its words, the frames and locals that it needs -/
abbrev fxY : Type := Bool × (ByteArray × (Nat × (Option FieldType × (String × (List Cond × (Nat × Nat))))))
def fxQ (X : Bool) (below : List Frame) (Qc : Array Value → State → Outcome → State → Prop) (XC : String → State → State → Prop) (a : Array Value) (s : State) (mc ms : Nat) (A : Nat → Prop) : State → Prop := match X with
  | true => vx_MQ below Qc XC a s mc ms A
  | false => MQ below Qc a s mc ms A
/-- the draws' values lie in their ranges -/
def fxDk (G : fxG) : Prop := ∀ (k : Nat) (q : Int × Int), fx_rk k = some q → q.1 ≤ (fg_dk G k : Int) ∧ (fg_dk G k : Int) ≤ q.2
/-- what stands through a whole body -/
def fxX (G : fxG) (Y : fxY) (p : Program) (R : Room) (s : State) (m : MethodId) (args : Array Value) (meth : Method) (c : Code) : Prop :=
  p.tables.exec = Jvm.exec ∧ c.code = Y.2.1 ∧ c.maxLocals = Y.2.2.1 ∧ meth.sig.returnType = Y.2.2.2.1 ∧ s.vm.findClass Y.2.2.2.2.1 = some m.cls ∧ (∀ w ∈ Y.2.2.2.2.2.1, w.before args s = true) ∧ meth.locks = false ∧ (fg_s G).WarmedH s.vm ∧ va_K (fg_D G) (fg_cl G) (fx_tys G) s ∧
  (fg_lo G ≤ s.heap.size ∧ ∀ q : Nat, q < fg_lo G → s.heap[q]? = (fg_s G).heap[q]?) ∧ Y.2.2.2.2.2.2.1 ≤ R.frames ∧ Y.2.2.2.2.2.2.2 ≤ R.locals ∧ (∀ x ∈ c.exceptionTable.toList, False) ∧ fxDk G
/-- what stands at a place -/
def fxU (G : fxG) (s : State) (nL : Nat) (c0 n0 : Nat) (M0 : fxT 9) (ad0 : List Bool → Nat) (st L : List fxV) (S : fxS) (cells slots : Nat) (ad : List Bool → Nat) (H : Heap) (locs : List Loc) (ls : Array Slot) : Prop :=
  cells + c0 = S.2.2.1 ∧ slots + n0 = S.2.2.2.1 ∧ fxI G ad S H ∧ fx_agr M0 ad0 ad ∧ fx_dom M0 S.1 ∧ va_S (fxA G) s.heap H locs ∧ fxL G ad nL ls L ∧ fx_oks S.1 st ∧ fx_oks S.1 L
def fxJ (G : fxG) (Y : fxY) (pc : Nat) (k : fxK0) : Prop :=
  ∀ (p : Program) (e : Env) (R : Room) (s : State) (m : MethodId) (args : Array Value) (below : List Frame) (meth : Method) (c : Code), fxX G Y p R s m args meth c →
  ∀ (st L : List fxV) (S : fxS) (o : fxO), k st L S = some o →
    (S.2.2.1 ≤ o.2.2.2.1 ∧ S.2.2.2.1 ≤ o.2.2.2.2.1) ∧
    ∀ (c0 n0 : Nat) (M0 : fxT 9) (ad0 : List Bool → Nat), R.cells + c0 = o.2.2.2.1 → R.slots + n0 = o.2.2.2.2.1 →
    ∀ (cells slots : Nat) (ad : List Bool → Nat) (H : Heap) (locs : List Loc) (ls : Array Slot), fxU G s Y.2.2.1 c0 n0 M0 ad0 st L S cells slots ad H locs ls →
      W p (fg_l G) e R s m args below meth c H locs cells slots (fxQ Y.1 below (fxQc G ad0 M0 o) (fxXC G ad0 M0 o) args s R.cells R.slots (fxA G)) (F0 m pc ls (st.map (fx_den G ad)))
/-- a chain of steps at a place, wherever the jumps' targets are right -/
def fxB (G : fxG) (Y : fxY) (lab : List Nat) (pc : Nat) (k : fxK) : Prop := ∀ self : Nat → fxK0, (∀ b q, lab[b]? = some q → fxJ G Y q (self b)) → fxJ G Y pc (k self)
/-- .. of a method: when its function answers, its contract holds -/
def fxM (G : fxG) (Y : fxY) (y : MethodName) (f : fxF) : Prop := ∀ (vs : List fxV) (S : fxS) (o : fxO), f vs S = some o →
  (S.2.2.1 ≤ o.2.2.2.1 ∧ S.2.2.2.1 ≤ o.2.2.2.2.1) ∧ ∀ ad : List Bool → Nat, 
    (match Y.1 with
    | true => vx_Met (fg_l G) y Y.2.2.2.2.2.1 { frames := Y.2.2.2.2.2.2.1, cells := o.2.2.2.1 - S.2.2.1, slots := o.2.2.2.2.1 - S.2.2.2.1, locals := Y.2.2.2.2.2.2.2 } (fxPc G ad vs S) (fxQc G ad S.1 o) (fxXC G ad S.1 o) (o.2.2.2.1 - S.2.2.1) (o.2.2.2.2.1 - S.2.2.2.1) (fxA G)
    | false => Met (fg_l G) y Y.2.2.2.2.2.1 { frames := Y.2.2.2.2.2.2.1, cells := o.2.2.2.1 - S.2.2.1, slots := o.2.2.2.2.1 - S.2.2.2.1, locals := Y.2.2.2.2.2.2.2 } (fxPc G ad vs S) (fxQc G ad S.1 o) (o.2.2.2.1 - S.2.2.1) (o.2.2.2.2.1 - S.2.2.2.1) (fxA G))
end
section
/-! WHAT A STEP THAT COMES TO AN END HAS DONE. -/
section INV
variable {k kt kf : fxK} {self : Nat → fxK0} {st L : List fxV} {S : fxS} {o : fxO}
theorem fo_some {α β : Type} {x : Option α} {g : α → Option β} {o : β} (h : Option.rec (motive := fun _ => Option β) none g x = some o) : ∃ v, x = some v ∧ g v = some o := by
  cases x with
  | none => exact nomatch h
  | some v => exact ⟨v, rfl, h⟩
theorem fo_cons {α β : Type} {x : List α} {g : α → List α → Option β} {o : β} (h : List.rec (motive := fun _ => Option β) none (fun v r _ => g v r) x = some o) : ∃ v r, x = v :: r ∧ g v r = some o := by
  cases x with
  | nil => exact nomatch h
  | cons v r => exact ⟨v, r, rfl, h⟩
theorem fo_true {β : Type} {x : Bool} {y : Option β} {o : β} (h : Bool.rec (motive := fun _ => Option β) none y x = some o) : x = true ∧ y = some o := by
  cases x with
  | false => exact nomatch h
  | true => exact ⟨rfl, h⟩
theorem fo_false {β : Type} {x : Bool} {y : Option β} {o : β} (h : Bool.rec (motive := fun _ => Option β) y none x = some o) : x = false ∧ y = some o := by
  cases x with
  | false => exact ⟨rfl, h⟩
  | true => exact nomatch h
theorem fo_inl {α γ β : Type} {x : α ⊕ γ} {g : α → Option β} {o : β} (h : Sum.rec (motive := fun _ => Option β) g (fun _ => none) x = some o) : ∃ v, x = .inl v ∧ g v = some o := by
  cases x with
  | inl v => exact ⟨v, rfl, h⟩
  | inr v => exact nomatch h
theorem fo_inr {α γ β : Type} {x : α ⊕ γ} {g : γ → Option β} {o : β} (h : Sum.rec (motive := fun _ => Option β) (fun _ => none) g x = some o) : ∃ v, x = .inr v ∧ g v = some o := by
  cases x with
  | inr v => exact ⟨v, rfl, h⟩
  | inl v => exact nomatch h
theorem fo_load {d i : Nat} (h : fx_load d i k self st L S = some o) : ∃ v, L[i]? = some v ∧ fx_kd v = d ∧ k self (v :: st) L S = some o := by
  obtain ⟨v, h1, h⟩ := fo_some h
  obtain ⟨h2, h⟩ := fo_true h
  exact ⟨v, by rw [← fx_nth_eq]; exact h1, Nat.eq_of_beq_eq_true h2, h⟩
theorem fo_store {d i : Nat} (h : fx_store d i k self st L S = some o) : ∃ v r, st = v :: r ∧ fx_kd v = d ∧ k self r (fx_upd L i v) S = some o := by
  obtain ⟨v, r, h1, h⟩ := fo_cons h
  obtain ⟨h2, h⟩ := fo_true h
  exact ⟨v, r, h1, Nat.eq_of_beq_eq_true h2, h⟩
theorem fo_bin {f : fxV → fxV → Option fxV} (h : fx_bin f k self st L S = some o) : ∃ x y r v, st = y :: x :: r ∧ f x y = some v ∧ k self (v :: r) L S = some o := by
  obtain ⟨y, r, h1, h⟩ := fo_cons h
  obtain ⟨x, r2, h2, h⟩ := fo_cons h
  obtain ⟨v, h3, h⟩ := fo_some h
  exact ⟨x, y, r2, v, by rw [h1, h2], h3, h⟩
theorem fo_un {f : fxV → Option fxV} (h : fx_un f k self st L S = some o) : ∃ x r v, st = x :: r ∧ f x = some v ∧ k self (v :: r) L S = some o := by
  obtain ⟨x, r, h1, h⟩ := fo_cons h
  obtain ⟨v, h3, h⟩ := fo_some h
  exact ⟨x, r, v, h1, h3, h⟩
theorem fo_iinc {i : Nat} {z : fxV} {f : fxV → fxV → Option fxV} (h : fx_iinc i z f k self st L S = some o) : ∃ v w, L[i]? = some v ∧ f v z = some w ∧ k self st (fx_upd L i w) S = some o := by
  obtain ⟨v, h1, h⟩ := fo_some h
  obtain ⟨w, h2, h⟩ := fo_some h
  exact ⟨v, w, by rw [← fx_nth_eq]; exact h1, h2, h⟩
theorem fo_if2 {f : fxV → fxV → Option Bool} (h : fx_if2 f kt kf self st L S = some o) : ∃ x y r b, st = y :: x :: r ∧ f x y = some b ∧ (b = true → kt self r L S = some o) ∧ (b = false → kf self r L S = some o) := by
  obtain ⟨y, r, h1, h⟩ := fo_cons h
  obtain ⟨x, r2, h2, h⟩ := fo_cons h
  obtain ⟨b, h3, h⟩ := fo_some h
  refine ⟨x, y, r2, b, by rw [h1, h2], h3, ?_⟩
  cases b with
  | false => exact ⟨fun e => (nomatch e), fun _ => h⟩
  | true => exact ⟨fun _ => h, fun e => (nomatch e)⟩
theorem fo_if1 {f : fxV → Option Bool} (h : fx_if1 f kt kf self st L S = some o) : ∃ x r b, st = x :: r ∧ f x = some b ∧ (b = true → kt self r L S = some o) ∧ (b = false → kf self r L S = some o) := by
  obtain ⟨x, r, h1, h⟩ := fo_cons h
  obtain ⟨b, h3, h⟩ := fo_some h
  refine ⟨x, r, b, h1, h3, ?_⟩
  cases b with
  | false => exact ⟨fun e => (nomatch e), fun _ => h⟩
  | true => exact ⟨fun _ => h, fun e => (nomatch e)⟩
theorem fo_ne {a b : Nat} (h : Nat.beq a b = false) : a ≠ b := fun e => by rw [e] at h; exact absurd h (by simp)
theorem fo_dup (h : fx_dup k self st L S = some o) : ∃ x r, st = x :: r ∧ fx_kd x ≠ 2 ∧ k self (x :: x :: r) L S = some o := by
  obtain ⟨x, r, h1, h⟩ := fo_cons h
  obtain ⟨h2, h⟩ := fo_false h
  exact ⟨x, r, h1, fo_ne h2, h⟩
theorem fo_pop (h : fx_pop k self st L S = some o) : ∃ x r, st = x :: r ∧ fx_kd x ≠ 2 ∧ k self r L S = some o := by
  obtain ⟨x, r, h1, h⟩ := fo_cons h
  obtain ⟨h2, h⟩ := fo_false h
  exact ⟨x, r, h1, fo_ne h2, h⟩
theorem fo_dupx1 (h : fx_dupx1 k self st L S = some o) : ∃ x y r, st = x :: y :: r ∧ fx_kd x ≠ 2 ∧ fx_kd y ≠ 2 ∧ k self (x :: y :: x :: r) L S = some o := by
  obtain ⟨x, r, h1, h⟩ := fo_cons h
  obtain ⟨y, r2, h2, h⟩ := fo_cons h
  obtain ⟨h3, h⟩ := fo_false h
  obtain ⟨h4, h⟩ := fo_false h
  exact ⟨x, y, r2, by rw [h1, h2], fo_ne h3, fo_ne h4, h⟩
theorem fo_dup2 (h : fx_dup2 k self st L S = some o) : ∃ x y r, st = x :: y :: r ∧ fx_kd x ≠ 2 ∧ fx_kd y ≠ 2 ∧ k self (x :: y :: x :: y :: r) L S = some o := by
  obtain ⟨x, r, h1, h⟩ := fo_cons h
  obtain ⟨y, r2, h2, h⟩ := fo_cons h
  obtain ⟨h3, h⟩ := fo_false h
  obtain ⟨h4, h⟩ := fo_false h
  exact ⟨x, y, r2, by rw [h1, h2], fo_ne h3, fo_ne h4, h⟩
theorem fo_at {v : fxV} {c : fxC} (h : fx_at v S = some c) : v = .inr (.inl (fx_path v)) ∧ fx_get 9 S.1 (fx_path v) = some c := by
  rcases v with n | p | n | q
  · exact nomatch h
  · exact ⟨rfl, h⟩
  · exact nomatch h
  · exact nomatch h
theorem fo_obj {ci : Nat} {e : fxE} {fs : List fxV} (h : fx_obj ci e = some fs) : e = .inl (ci, fs) := by
  rcases e with ⟨c, f⟩ | e
  · have h' : Bool.rec (motive := fun _ => Option (List fxV)) none (some f) (Nat.beq c ci) = some fs := h
    obtain ⟨h1, h2⟩ := fo_true h'
    rw [Nat.eq_of_beq_eq_true h1, Option.some.inj h2]
  · exact nomatch h
theorem fo_arr {t : Nat} {e : fxE} {xs : List fxV} (h : fx_arr t e = some xs) : e = .inr (t, xs) := by
  rcases e with e | ⟨c, f⟩
  · exact nomatch h
  · have h' : Bool.rec (motive := fun _ => Option (List fxV)) none (some f) (Nat.beq c t) = some xs := h
    obtain ⟨h1, h2⟩ := fo_true h'
    rw [Nat.eq_of_beq_eq_true h1, Option.some.inj h2]
theorem fo_getf {ci j : Nat} (h : fx_getf ci j k self st L S = some o) : ∃ p r w fs v, st = .inr (.inl p) :: r ∧ fx_get 9 S.1 p = some (w, .inl (ci, fs)) ∧ fs[j]? = some v ∧ k self (v :: r) L S = some o := by
  obtain ⟨x, r, h1, h⟩ := fo_cons h
  obtain ⟨c, h2, h⟩ := fo_some h
  obtain ⟨fs, h3, h⟩ := fo_some h
  obtain ⟨v, h4, hz⟩ := fo_some h
  obtain ⟨h5, h6⟩ := fo_at h2
  obtain ⟨w, e⟩ := c
  have h3 := fo_obj h3
  subst h3
  exact ⟨fx_path x, r, w, fs, v, by rw [h1, ← h5], h6, by rw [← fx_nth_eq]; exact h4, hz⟩
theorem fo_and {a b : Bool} (h : Bool.and a b = true) : a = true ∧ b = true := by cases a <;> cases b <;> simp_all
theorem fo_lt {a b : Nat} (h : Nat.blt a b = true) : a < b := by simpa [Nat.blt_eq] using h
theorem fo_putf {ci j d : Nat} (h : fx_putf ci j d k self st L S = some o) : ∃ v p r fs, st = v :: .inr (.inl p) :: r ∧ fx_get 9 S.1 p = some (true, .inl (ci, fs)) ∧ fx_fit d v = true ∧ j < fs.length ∧ k self r L (fx_set 9 S.1 p (true, .inl (ci, fx_upd fs j v)), S.2) = some o := by
  obtain ⟨v, r, h1, h⟩ := fo_cons h
  obtain ⟨x, r2, h2, h⟩ := fo_cons h
  obtain ⟨c, h3, h⟩ := fo_some h
  obtain ⟨h4, h⟩ := fo_true h
  obtain ⟨fs, h5, h⟩ := fo_some h
  obtain ⟨h6, hz⟩ := fo_true h
  obtain ⟨h7, h8⟩ := fo_and h6
  obtain ⟨h9, h10⟩ := fo_at h3
  obtain ⟨w, e⟩ := c
  have h4 : w = true := h4
  have h5 := fo_obj h5
  subst h4
  subst h5
  exact ⟨v, fx_path x, r2, fs, by rw [h1, h2, ← h9], h10, h7, fo_lt h8, hz⟩
theorem fo_ald {t : Nat} (h : fx_ald t k self st L S = some o) : ∃ n p r w xs v, st = .inl n :: .inr (.inl p) :: r ∧ fx_get 9 S.1 p = some (w, .inr (t, xs)) ∧ xs[n]? = some v ∧ k self (v :: r) L S = some o := by
  obtain ⟨i, r, h1, h⟩ := fo_cons h
  obtain ⟨x, r2, h2, h⟩ := fo_cons h
  obtain ⟨c, h3, h⟩ := fo_some h
  obtain ⟨xs, h4, h⟩ := fo_some h
  obtain ⟨n, h5, h⟩ := fo_inl h
  obtain ⟨v, h6, hz⟩ := fo_some h
  obtain ⟨h9, h10⟩ := fo_at h3
  obtain ⟨w, e⟩ := c
  have h4 := fo_arr h4
  subst h4
  exact ⟨n, fx_path x, r2, w, xs, v, by rw [h1, h2, h5, ← h9], h10, by rw [← fx_nth_eq]; exact h6, hz⟩
theorem fo_ast {t : Nat} (h : fx_ast t k self st L S = some o) : ∃ v n p r xs, st = v :: .inl n :: .inr (.inl p) :: r ∧ fx_get 9 S.1 p = some (true, .inr (t, xs)) ∧ fx_fit t v = true ∧ n < xs.length ∧ k self r L (fx_set 9 S.1 p (true, .inr (t, fx_upd xs n v)), S.2) = some o := by
  obtain ⟨v, r, h1, h⟩ := fo_cons h
  obtain ⟨i, r2, h2, h⟩ := fo_cons h
  obtain ⟨x, r3, h3, h⟩ := fo_cons h
  obtain ⟨c, h4, h⟩ := fo_some h
  obtain ⟨h5, h⟩ := fo_true h
  obtain ⟨xs, h6, h⟩ := fo_some h
  obtain ⟨n, h7, h⟩ := fo_inl h
  obtain ⟨h8, hz⟩ := fo_true h
  obtain ⟨h9, h10⟩ := fo_and h8
  obtain ⟨h11, h12⟩ := fo_at h4
  obtain ⟨w, e⟩ := c
  have h5 : w = true := h5
  have h6 := fo_arr h6
  subst h5
  subst h6
  exact ⟨v, n, fx_path x, r3, xs, by rw [h1, h2, h3, h7, ← h11], h12, h9, fo_lt h10, hz⟩
theorem fo_alen (h : fx_alen k self st L S = some o) : ∃ p r w t xs, st = .inr (.inl p) :: r ∧ fx_get 9 S.1 p = some (w, .inr (t, xs)) ∧ k self (.inl xs.length :: r) L S = some o := by
  obtain ⟨x, r, h1, h⟩ := fo_cons h
  obtain ⟨c, h2, h⟩ := fo_some h
  obtain ⟨a, h3, h⟩ := fo_inr h
  obtain ⟨h5, h6⟩ := fo_at h2
  obtain ⟨w, e⟩ := c
  obtain ⟨t, xs⟩ := a
  have h3 : e = .inr (t, xs) := h3
  subst h3
  exact ⟨fx_path x, r, w, t, xs, by rw [h1, ← h5], h6, h⟩
theorem fo_new {ci n : Nat} {fs : List fxV} (h : fx_new ci n fs k self st L S = some o) : S.2.1 < 512 ∧ k self (.inr (.inl (fx_bits 9 S.2.1)) :: st) L (fx_mk S (.inl (ci, fs)) n) = some o := by
  obtain ⟨h1, h⟩ := fo_true h
  exact ⟨fo_lt h1, h⟩
theorem fo_newa {t : Nat} (h : fx_newa t k self st L S = some o) : ∃ n r, st = .inl n :: r ∧ n < 65536 ∧ S.2.1 < 512 ∧ k self (.inr (.inl (fx_bits 9 S.2.1)) :: r) L (fx_mk S (.inr (t, List.replicate n (fx_def t))) n) = some o := by
  obtain ⟨x, r, h1, h⟩ := fo_cons h
  obtain ⟨n, h2, h⟩ := fo_inl h
  obtain ⟨h3, h⟩ := fo_true h
  obtain ⟨h4, h5⟩ := fo_and h3
  exact ⟨n, r, by rw [h1, h2], fo_lt h4, fo_lt h5, h⟩
theorem fo_args : ∀ (n : Nat) (a st : List fxV) (q : List fxV × List fxV), fx_args n a st = some q → ∃ vs, vs.length = n ∧ q.1 = vs ++ a ∧ st = vs.reverse ++ q.2 := by
  intro n
  induction n with
  | zero => intro a st q h; cases h; exact ⟨[], rfl, rfl, rfl⟩
  | succ n ih =>
    intro a st q h
    cases st with
    | nil => exact nomatch h
    | cons v r =>
      obtain ⟨vs, h1, h2, h3⟩ := ih (v :: a) r q h
      refine ⟨vs ++ [v], by rw [List.length_append, h1]; rfl, by rw [h2, List.append_assoc]; rfl, ?_⟩
      rw [List.reverse_append, h3]
      rfl
theorem fo_call {f : fxF} {n : Nat} (h : fx_call f n k self st L S = some o) : ∃ vs r v S', vs.length = n ∧ st = vs.reverse ++ r ∧ r.length ≤ 4 ∧ f vs S = some (.inl v, S') ∧ k self (v.toList ++ r) L S' = some o := by
  obtain ⟨q, h1, h⟩ := fo_some h
  obtain ⟨h2, h⟩ := fo_true h
  obtain ⟨o1, h3, h⟩ := fo_some h
  obtain ⟨v, h4, h⟩ := fo_inl h
  obtain ⟨vs, h5, h6, h7⟩ := fo_args n [] st q h1
  rw [List.append_nil] at h6
  obtain ⟨x, S'⟩ := o1
  have h4 : x = .inl v := h4
  subst h4
  refine ⟨vs, q.2, v, S', h5, h7, Nat.le_of_ble_eq_true h2, by rw [← h6]; exact h3, ?_⟩
  cases v with
  | none => exact h
  | some w => exact h
theorem fo_callX {f : fxF} {n : Nat} (h : fx_callX f n k self st L S = some o) : ∃ vs r x S', vs.length = n ∧ st = vs.reverse ++ r ∧ r.length ≤ 4 ∧ f vs S = some (x, S') ∧ (∀ v, x = .inl v → k self (v.toList ++ r) L S' = some o) ∧ ∀ e, x = .inr e → o = (.inr e, S') := by
  obtain ⟨q, h1, h⟩ := fo_some h
  obtain ⟨h2, h⟩ := fo_true h
  obtain ⟨o1, h3, h⟩ := fo_some h
  obtain ⟨vs, h5, h6, h7⟩ := fo_args n [] st q h1
  rw [List.append_nil] at h6
  obtain ⟨x, S'⟩ := o1
  refine ⟨vs, q.2, x, S', h5, h7, Nat.le_of_ble_eq_true h2, by rw [← h6]; exact h3, ?_, ?_⟩
  · intro v hv
    subst hv
    cases v with
    | none => exact h
    | some w => exact h
  · intro e he
    subst he
    exact (Option.some.inj h).symm
theorem fo_ret {d : Nat} (h : fx_ret d self st L S = some o) : ∃ v r, st = v :: r ∧ fx_fit d v = true ∧ o = (.inl (some v), S) := by
  obtain ⟨v, r, h1, h⟩ := fo_cons h
  obtain ⟨h2, h⟩ := fo_true h
  exact ⟨v, r, h1, h2, (Option.some.inj h).symm⟩
end INV
end
section
/-! STEPS ON THE STACK AND THE LOCALS ARE RIGHT. -/
section LOC
variable {G : fxG} {Y : fxY} {lab : List Nat} {pc : Nat} {k kt kf : fxK}
theorem fx_oks_cons {M : fxT 9} {v : fxV} {L : List fxV} (h : fx_ok M v) (hl : fx_oks M L) : fx_oks M (v :: L) := fun w hw => by
  rcases List.mem_cons.mp hw with e | e
  · rw [e]; exact h
  · exact hl w e
theorem fx_oks_tl {M : fxT 9} {v : fxV} {L : List fxV} (h : fx_oks M (v :: L)) : fx_oks M L := fun w hw => h w (List.mem_cons_of_mem _ hw)
theorem fx_oks_hd {M : fxT 9} {v : fxV} {L : List fxV} (h : fx_oks M (v :: L)) : fx_ok M v := h v List.mem_cons_self
theorem fx_oks_app {M : fxT 9} {L L' : List fxV} (h : fx_oks M L) (h' : fx_oks M L') : fx_oks M (L ++ L') := fun w hw => (List.mem_append.mp hw).elim (h w) (h' w)
theorem fx_ok_kd {M : fxT 9} {v : fxV} (h : fx_kd v ≠ 1) : fx_ok M v := fun b p e => by subst e; exact absurd rfl h
theorem fx_oks_upd {M : fxT 9} {v : fxV} {L : List fxV} {i : Nat} (h : fx_oks M L) (hv : fx_ok M v) : fx_oks M (fx_upd L i v) := fun w hw => by
  rw [fx_upd_eq] at hw
  rcases List.mem_or_eq_of_mem_set hw with e | e
  · exact h w e
  · rw [e]; exact hv
theorem fx_oks_get {M : fxT 9} {v : fxV} {L : List fxV} {i : Nat} (h : fx_oks M L) (hv : L[i]? = some v) : fx_ok M v := h v (List.mem_of_getElem? hv)
theorem fx_int {G : fxG} {ad : List Bool → Nat} {v : fxV} (h : fx_kd v = 0) : ∃ x : Int32, fx_den G ad v = .int x := by
  rcases v with n | p | n | ⟨j, o, s⟩
  · exact ⟨_, rfl⟩
  · exact nomatch (show (1 : Nat) = 0 from h)
  · exact nomatch (show (2 : Nat) = 0 from h)
  · exact ⟨_, rfl⟩
theorem fx_ref {G : fxG} {ad : List Bool → Nat} {v : fxV} (h : fx_kd v = 1) : fx_den G ad v = .null ∨ ∃ a, fx_den G ad v = .ref a := by
  rcases v with n | (_ | ⟨b, p⟩) | n | ⟨j, o, s⟩
  · exact nomatch (show (0 : Nat) = 1 from h)
  · exact Or.inl rfl
  · exact Or.inr ⟨_, rfl⟩
  · exact nomatch (show (2 : Nat) = 1 from h)
  · have h' : Bool.rec (motive := fun _ => Nat) 0 3 (Nat.beq j 7) = 1 := h
    cases hj : Nat.beq j 7 <;> rw [hj] at h' <;> exact absurd h' (by decide)
theorem fb_stuck : fxB G Y lab pc fx_stuck := fun _ _ _ _ _ _ _ _ _ _ _ _ _ _ _ _ h => nomatch h
/-- a value is pushed -/
theorem fb_push {v : fxV} {len : Nat} (hv : fx_kd v ≠ 1 ∨ v = .inr (.inl [])) (hrow : ∀ (p : Program) (e : Env) (R : Room) (s : State) (m : MethodId) (args : Array Value) (below : List Frame) (meth : Method) (c : Code), fxX G Y p R s m args meth c →
    ∀ (ad : List Bool → Nat) (H : Heap) (locs : List Loc) (cells slots : Nat) (Q : State → Prop) (ls : Array Slot) (rest : List Value), W p (fg_l G) e R s m args below meth c H locs cells slots Q (F0 m (pc + len) ls (fx_den G ad v :: rest)) → W p (fg_l G) e R s m args below meth c H locs cells slots Q (F0 m pc ls rest))
    (hk : fxB G Y lab (pc + len) k) : fxB G Y lab pc (fx_push v k) := by
  intro self hs p e R s m args below meth c X st L S o h
  obtain ⟨hm, kk⟩ := hk self hs p e R s m args below meth c X (v :: st) L S o h
  refine ⟨hm, fun c0 n0 M0 ad0 hc hn cells slots ad H locs ls U => ?_⟩
  obtain ⟨u1, u2, uI, ua, ud, uS, uL, us, ul⟩ := U
  have hv' : fx_ok S.1 v := by
    rcases hv with h | h
    · exact fx_ok_kd h
    · subst h; exact fun b p e => nomatch e
  exact hrow p e R s m args below meth c X ad H locs cells slots _ ls _ (kk c0 n0 M0 ad0 hc hn cells slots ad H locs ls ⟨u1, u2, uI, ua, ud, uS, uL, fx_oks_cons hv' us, ul⟩)
theorem fb_iconst {z : Int} {n : Nat} (hdg : decode Y.2.1 pc = .ok (.iconst z, 1)) (hv : Int32.ofInt z = nI n) (hk : fxB G Y lab (pc + 1) k) : fxB G Y lab pc (fx_push (.inl n) k) :=
  fb_push (Or.inl (by show (0 : Nat) ≠ 1; decide)) (fun _ _ _ _ _ _ _ _ _ X _ _ _ _ _ _ _ _ w => lv_iconst X.1 X.2.1 hdg hv w) hk
theorem fb_bipush {z : Int} {n : Nat} (hdg : decode Y.2.1 pc = .ok (.bipush z, 2)) (hv : (Int8.ofInt z).toInt32 = nI n) (hk : fxB G Y lab (pc + 2) k) : fxB G Y lab pc (fx_push (.inl n) k) :=
  fb_push (Or.inl (by show (0 : Nat) ≠ 1; decide)) (fun _ _ _ _ _ _ _ _ _ X _ _ _ _ _ _ _ _ w => lv_bipush X.1 X.2.1 hdg hv w) hk
theorem fb_sipush {z : Int} {n : Nat} (hdg : decode Y.2.1 pc = .ok (.sipush z, 3)) (hv : (Int16.ofInt z).toInt32 = nI n) (hk : fxB G Y lab (pc + 3) k) : fxB G Y lab pc (fx_push (.inl n) k) :=
  fb_push (Or.inl (by show (0 : Nat) ≠ 1; decide)) (fun _ _ _ _ _ _ _ _ _ X _ _ _ _ _ _ _ _ w => lv_sipush X.1 X.2.1 hdg hv w) hk
theorem fb_lconst {z : Fin 2} {n : Nat} (hdg : decode Y.2.1 pc = .ok (.lconst z, 1)) (hv : Int64.ofNat (z : Nat) = lN n) (hk : fxB G Y lab (pc + 1) k) : fxB G Y lab pc (fx_push (.inr (.inr (.inl n))) k) :=
  fb_push (Or.inl (by show (2 : Nat) ≠ 1; decide)) (fun _ _ _ _ _ _ _ _ _ X _ _ _ _ _ _ _ _ w => lv_lconst X.1 X.2.1 hdg hv w) hk
theorem fb_null (hdg : decode Y.2.1 pc = .ok (.aconst_null, 1)) (hk : fxB G Y lab (pc + 1) k) : fxB G Y lab pc (fx_push (.inr (.inl [])) k) :=
  fb_push (Or.inr rfl) (fun _ _ _ _ _ _ _ _ _ X _ _ _ _ _ _ _ _ w => lv_null X.1 X.2.1 hdg w) hk
theorem fb_ldc {index n : Nat} {z : Int32} (hdg : decode Y.2.1 pc = .ok (.ldc index, 2)) (hw : Cond.constant Y.2.2.2.2.1 index z ∈ Y.2.2.2.2.2.1) (hv : z = nI n) (hk : fxB G Y lab (pc + 2) k) : fxB G Y lab pc (fx_push (.inl n) k) :=
  fb_push (Or.inl (by show (0 : Nat) ≠ 1; decide)) (fun _ _ _ _ _ _ _ _ _ X _ _ _ _ _ _ _ _ w => by
    subst hv
    exact lv_ldc X.1 X.2.1 X.2.2.2.2.1 (X.2.2.2.2.2.1 _ hw) hdg w) hk
/-- a local is pushed -/
theorem fb_load {d i len : Nat} (hd : d < 2) (hrow : ∀ (p : Program) (e : Env) (R : Room) (s : State) (m : MethodId) (args : Array Value) (below : List Frame) (meth : Method) (c : Code), fxX G Y p R s m args meth c →
    ∀ (ad : List Bool → Nat) (v : fxV) (H : Heap) (locs : List Loc) (cells slots : Nat) (Q : State → Prop) (ls : Array Slot) (rest : List Value), fx_kd v = d → ls[i]? = some (.val (fx_den G ad v)) → W p (fg_l G) e R s m args below meth c H locs cells slots Q (F0 m (pc + len) ls (fx_den G ad v :: rest)) → W p (fg_l G) e R s m args below meth c H locs cells slots Q (F0 m pc ls rest))
    (hk : fxB G Y lab (pc + len) k) : fxB G Y lab pc (fx_load d i k) := by
  intro self hs p e R s m args below meth c X st L S o h
  obtain ⟨v, h1, h2, h⟩ := fo_load h
  obtain ⟨hm, kk⟩ := hk self hs p e R s m args below meth c X (v :: st) L S o h
  refine ⟨hm, fun c0 n0 M0 ad0 hc hn cells slots ad H locs ls U => ?_⟩
  obtain ⟨u1, u2, uI, ua, ud, uS, uL, us, ul⟩ := U
  exact hrow p e R s m args below meth c X ad v H locs cells slots _ ls _ h2 (fxL_at uL h1 (by omega)) (kk c0 n0 M0 ad0 hc hn cells slots ad H locs ls ⟨u1, u2, uI, ua, ud, uS, uL, fx_oks_cons (fx_oks_get ul h1) us, ul⟩)
theorem fb_iload_n {i : Nat} {j : Fin 4} (hdg : decode Y.2.1 pc = .ok (.iload_n j, 1)) (hj : (j : Nat) = i) (hk : fxB G Y lab (pc + 1) k) : fxB G Y lab pc (fx_load 0 i k) :=
  fb_load (by decide) (fun _ _ _ _ _ _ _ _ _ X ad v _ _ _ _ _ _ _ hv hl w => by
    obtain ⟨x, hx⟩ := fx_int (G := G) (ad := ad) hv
    rw [hx] at hl w
    exact lv_iload_n X.1 X.2.1 hdg hj hl w) hk
theorem fb_iload {i : Nat} (hdg : decode Y.2.1 pc = .ok (.iload i, 2)) (hk : fxB G Y lab (pc + 2) k) : fxB G Y lab pc (fx_load 0 i k) :=
  fb_load (by decide) (fun _ _ _ _ _ _ _ _ _ X ad v _ _ _ _ _ _ _ hv hl w => by
    obtain ⟨x, hx⟩ := fx_int (G := G) (ad := ad) hv
    rw [hx] at hl w
    exact lv_iload X.1 X.2.1 hdg hl w) hk
/-- a reference or null in a local: by a row of its own for null -/
theorem fl_aload_n {p : Program} {l : Launch} {e : Env} {R : Room} {s : State} {m : MethodId} {args : Array Value} {below : List Frame} {meth : Method} {c : Code} {H : Heap} {locs : List Loc} {cells slots : Nat} {Q : State → Prop} {cc : ByteArray} {ls : Array Slot} {rest : List Value}
    (hexec : p.tables.exec = Jvm.exec) (hb : c.code = cc) {j : Fin 4} {i : Nat} (hdg : decode cc pc = .ok (.aload_n j, 1)) (hi : (j : Nat) = i) (hl : ls[i]? = some (.val .null))
    (k : W p l e R s m args below meth c H locs cells slots Q (F0 m (pc + 1) ls (.null :: rest))) : W p l e R s m args below meth c H locs cells slots Q (F0 m pc ls (rest)) := by
  subst hi
  intro T hT X
  obtain ⟨t, a, b⟩ := k T hT X
  refine ⟨t, ?_, b⟩
  jvm_step X.here [X.here.top, hexec, hb, hdg, hl]
  exact ⟨rfl, a⟩
theorem fl_aload {p : Program} {l : Launch} {e : Env} {R : Room} {s : State} {m : MethodId} {args : Array Value} {below : List Frame} {meth : Method} {c : Code} {H : Heap} {locs : List Loc} {cells slots : Nat} {Q : State → Prop} {cc : ByteArray} {ls : Array Slot} {rest : List Value}
    (hexec : p.tables.exec = Jvm.exec) (hb : c.code = cc) {i : Nat} (hdg : decode cc pc = .ok (.aload i, 2)) (hl : ls[i]? = some (.val .null))
    (k : W p l e R s m args below meth c H locs cells slots Q (F0 m (pc + 2) ls (.null :: rest))) : W p l e R s m args below meth c H locs cells slots Q (F0 m pc ls (rest)) := by
  intro T hT X
  obtain ⟨t, a, b⟩ := k T hT X
  refine ⟨t, ?_, b⟩
  jvm_step X.here [X.here.top, hexec, hb, hdg, hl]
  exact ⟨rfl, a⟩
theorem fb_aload_n {i : Nat} {j : Fin 4} (hdg : decode Y.2.1 pc = .ok (.aload_n j, 1)) (hj : (j : Nat) = i) (hk : fxB G Y lab (pc + 1) k) : fxB G Y lab pc (fx_load 1 i k) :=
  fb_load (by decide) (fun _ _ _ _ _ _ _ _ _ X ad v _ _ _ _ _ _ _ hv hl w => by
    rcases fx_ref (G := G) (ad := ad) hv with hx | ⟨x, hx⟩
    · rw [hx] at hl w
      exact fl_aload_n X.1 X.2.1 hdg hj hl w
    · rw [hx] at hl w
      exact lv_aload_n X.1 X.2.1 hdg hj hl w) hk
theorem fb_aload {i : Nat} (hdg : decode Y.2.1 pc = .ok (.aload i, 2)) (hk : fxB G Y lab (pc + 2) k) : fxB G Y lab pc (fx_load 1 i k) :=
  fb_load (by decide) (fun _ _ _ _ _ _ _ _ _ X ad v _ _ _ _ _ _ _ hv hl w => by
    rcases fx_ref (G := G) (ad := ad) hv with hx | ⟨x, hx⟩
    · rw [hx] at hl w
      exact fl_aload X.1 X.2.1 hdg hl w
    · rw [hx] at hl w
      exact lv_aload X.1 X.2.1 hdg hl w) hk
/-- a local is set -/
theorem fb_store {d i len : Nat} (hd : d < 2) (hi : i < Y.2.2.1) (hrow : ∀ (p : Program) (e : Env) (R : Room) (s : State) (m : MethodId) (args : Array Value) (below : List Frame) (meth : Method) (c : Code), fxX G Y p R s m args meth c →
    ∀ (ad : List Bool → Nat) (v : fxV) (H : Heap) (locs : List Loc) (cells slots : Nat) (Q : State → Prop) (ls : Array Slot) (lv : List (Nat × Value)) (rest : List Value), fx_kd v = d → lv_has ls Y.2.2.1 lv →
      (∀ ls' : Array Slot, lv_has ls' Y.2.2.1 ((i, fx_den G ad v) :: lv.filter (fun q => !(q.1 == i) && !(q.1 + 1 == i && q.2.category == 2))) → W p (fg_l G) e R s m args below meth c H locs cells slots Q (F0 m (pc + len) ls' rest)) →
      W p (fg_l G) e R s m args below meth c H locs cells slots Q (F0 m pc ls (fx_den G ad v :: rest)))
    (hk : fxB G Y lab (pc + len) k) : fxB G Y lab pc (fx_store d i k) := by
  intro self hs p e R s m args below meth c X st L S o h
  obtain ⟨v, r, h1, h2, hz⟩ := fo_store h
  subst h1
  obtain ⟨hm, kk⟩ := hk self hs p e R s m args below meth c X r (fx_upd L i v) S o hz
  refine ⟨hm, fun c0 n0 M0 ad0 hc hn cells slots ad H locs ls U => ?_⟩
  obtain ⟨u1, u2, uI, ua, ud, uS, uL, us, ul⟩ := U
  exact hrow p e R s m args below meth c X ad v H locs cells slots _ ls _ _ h2 uL.1 (fun ls' h' => kk c0 n0 M0 ad0 hc hn cells slots ad H locs ls' ⟨u1, u2, uI, ua, ud, uS, fxL_set (Or.inr trivial) uL.2.1 uL.2.2 (by omega) rfl h', fx_oks_tl us, fx_oks_upd ul (fx_oks_hd us)⟩)
theorem fb_istore_n {i : Nat} {j : Fin 4} (hdg : decode Y.2.1 pc = .ok (.istore_n j, 1)) (hj : (j : Nat) = i) (hi : i < Y.2.2.1) (hk : fxB G Y lab (pc + 1) k) : fxB G Y lab pc (fx_store 0 i k) :=
  fb_store (by decide) hi (fun _ _ _ _ _ _ _ _ _ X ad v _ _ _ _ _ _ _ _ hv hl w => by
    obtain ⟨x, hx⟩ := fx_int (G := G) (ad := ad) hv
    rw [hx] at w ⊢
    exact lv_istore_n X.1 X.2.1 hdg hj hl hi rfl w) hk
theorem fb_istore {i : Nat} (hdg : decode Y.2.1 pc = .ok (.istore i, 2)) (hi : i < Y.2.2.1) (hk : fxB G Y lab (pc + 2) k) : fxB G Y lab pc (fx_store 0 i k) :=
  fb_store (by decide) hi (fun _ _ _ _ _ _ _ _ _ X ad v _ _ _ _ _ _ _ _ hv hl w => by
    obtain ⟨x, hx⟩ := fx_int (G := G) (ad := ad) hv
    rw [hx] at w ⊢
    exact lv_istore X.1 X.2.1 hdg hl hi rfl w) hk
theorem fl_astore_n {p : Program} {l : Launch} {e : Env} {R : Room} {s : State} {m : MethodId} {args : Array Value} {below : List Frame} {meth : Method} {c : Code} {H : Heap} {locs : List Loc} {cells slots : Nat} {Q : State → Prop} {cc : ByteArray} {ls : Array Slot} {rest : List Value}
    (hexec : p.tables.exec = Jvm.exec) (hb : c.code = cc) {j : Fin 4} {i nL : Nat} {lv : List (Nat × Value)} (hdg : decode cc pc = .ok (.astore_n j, 1)) (hi : (j : Nat) = i) (h : lv_has ls nL lv) (hn : i < nL)
    (kk : ∀ ls' : Array Slot, lv_has ls' nL ((i, Value.null) :: lv.filter (fun q => !(q.1 == i) && !(q.1 + 1 == i && q.2.category == 2))) → W p l e R s m args below meth c H locs cells slots Q (F0 m (pc + 1) ls' rest)) : W p l e R s m args below meth c H locs cells slots Q (F0 m pc ls (.null :: rest)) := by
  subst hi
  obtain ⟨ls', e', h'⟩ := lv_store1 (v := .null) h hn rfl
  intro T hT X
  obtain ⟨t, a, b⟩ := kk ls' h' T hT X
  refine ⟨t, ?_, b⟩
  jvm_step X.here [X.here.top, ↓top_set X.here.top, hexec, hb, hdg, e']
  exact ⟨rfl, a⟩
theorem fl_astore {p : Program} {l : Launch} {e : Env} {R : Room} {s : State} {m : MethodId} {args : Array Value} {below : List Frame} {meth : Method} {c : Code} {H : Heap} {locs : List Loc} {cells slots : Nat} {Q : State → Prop} {cc : ByteArray} {ls : Array Slot} {rest : List Value}
    (hexec : p.tables.exec = Jvm.exec) (hb : c.code = cc) {i nL : Nat} {lv : List (Nat × Value)} (hdg : decode cc pc = .ok (.astore i, 2)) (h : lv_has ls nL lv) (hn : i < nL)
    (kk : ∀ ls' : Array Slot, lv_has ls' nL ((i, Value.null) :: lv.filter (fun q => !(q.1 == i) && !(q.1 + 1 == i && q.2.category == 2))) → W p l e R s m args below meth c H locs cells slots Q (F0 m (pc + 2) ls' rest)) : W p l e R s m args below meth c H locs cells slots Q (F0 m pc ls (.null :: rest)) := by
  obtain ⟨ls', e', h'⟩ := lv_store1 (v := .null) h hn rfl
  intro T hT X
  obtain ⟨t, a, b⟩ := kk ls' h' T hT X
  refine ⟨t, ?_, b⟩
  jvm_step X.here [X.here.top, ↓top_set X.here.top, hexec, hb, hdg, e']
  exact ⟨rfl, a⟩
theorem fb_astore_n {i : Nat} {j : Fin 4} (hdg : decode Y.2.1 pc = .ok (.astore_n j, 1)) (hj : (j : Nat) = i) (hi : i < Y.2.2.1) (hk : fxB G Y lab (pc + 1) k) : fxB G Y lab pc (fx_store 1 i k) :=
  fb_store (by decide) hi (fun _ _ _ _ _ _ _ _ _ X ad v _ _ _ _ _ _ _ _ hv hl w => by
    rcases fx_ref (G := G) (ad := ad) hv with hx | ⟨x, hx⟩
    · rw [hx] at w ⊢
      exact fl_astore_n X.1 X.2.1 hdg hj hl hi w
    · rw [hx] at w ⊢
      exact lv_astore_n X.1 X.2.1 hdg hj hl hi rfl w) hk
theorem fb_astore {i : Nat} (hdg : decode Y.2.1 pc = .ok (.astore i, 2)) (hi : i < Y.2.2.1) (hk : fxB G Y lab (pc + 2) k) : fxB G Y lab pc (fx_store 1 i k) :=
  fb_store (by decide) hi (fun _ _ _ _ _ _ _ _ _ X ad v _ _ _ _ _ _ _ _ hv hl w => by
    rcases fx_ref (G := G) (ad := ad) hv with hx | ⟨x, hx⟩
    · rw [hx] at w ⊢
      exact fl_astore X.1 X.2.1 hdg hl hi w
    · rw [hx] at w ⊢
      exact lv_astore X.1 X.2.1 hdg hl hi rfl w) hk
/-- a jump -/
theorem fb_goto {b tgt : Nat} {off : Int} (hdg : decode Y.2.1 pc = .ok (.goto off, 3)) (ht : (pc : Int) + off = (tgt : Int)) (hb : lab[b]? = some tgt) : fxB G Y lab pc (fx_goto b) := by
  intro self hs p e R s m args below meth c X st L S o h
  obtain ⟨hm, kk⟩ := hs b tgt hb p e R s m args below meth c X st L S o h
  refine ⟨hm, fun c0 n0 M0 ad0 hc hn cells slots ad H locs ls U => ?_⟩
  exact lv_goto X.1 X.2.1 hdg ht (kk c0 n0 M0 ad0 hc hn cells slots ad H locs ls U)
/-- .. taken at once: what stands at the target comes next -/
theorem fb_gotoN {tgt : Nat} {off : Int} (hdg : decode Y.2.1 pc = .ok (.goto off, 3)) (ht : (pc : Int) + off = (tgt : Int)) (hk : fxB G Y lab tgt k) : fxB G Y lab pc k := by
  intro self hs p e R s m args below meth c X st L S o h
  obtain ⟨hm, kk⟩ := hk self hs p e R s m args below meth c X st L S o h
  refine ⟨hm, fun c0 n0 M0 ad0 hc hn cells slots ad H locs ls U => ?_⟩
  exact lv_goto X.1 X.2.1 hdg ht (kk c0 n0 M0 ad0 hc hn cells slots ad H locs ls U)
/-- the code runs on into a place to which others jump -/
theorem fb_into {b : Nat} (hb : lab[b]? = some pc) : fxB G Y lab pc (fx_goto b) := fun _ hs => hs b pc hb
end LOC
end
section
/-! NUMBERS: what an operation answers is right. -/
section NUM
variable {G : fxG} {ad : List Bool → Nat}
theorem fn_tn (x : Int32) : nI x.toBitVec.toNat = x := by
  apply Int32.toBitVec_inj.mp
  show (Int32.ofNat _).toBitVec = _
  rw [Int32.toBitVec_ofNat']
  apply BitVec.eq_of_toNat_eq
  rw [BitVec.toNat_ofNat]
  exact Nat.mod_eq_of_lt x.toBitVec.isLt
theorem fn_tl (x : Int64) : lN x.toBitVec.toNat = x := by
  apply Int64.toBitVec_inj.mp
  show (Int64.ofNat _).toBitVec = _
  rw [Int64.toBitVec_ofNat']
  apply BitVec.eq_of_toNat_eq
  rw [BitVec.toNat_ofNat]
  exact Nat.mod_eq_of_lt x.toBitVec.isLt
theorem fn_bv (n : Nat) : (nI n).toBitVec = BitVec.ofNat 32 n := Int32.toBitVec_ofNat' ..
theorem fn_mod (n : Nat) : nI (n % 4294967296) = nI n := by
  apply Int32.toBitVec_inj.mp
  rw [fn_bv, fn_bv]
  apply BitVec.eq_of_toNat_eq
  simp [BitVec.toNat_ofNat]
theorem fn_con {n : Nat} (h : n < 4294967296) : nI n = Int32.ofInt (fx_con n) := by
  apply Int32.toBitVec_inj.mp
  rw [fn_bv, Int32.toBitVec_ofInt]
  apply BitVec.eq_of_toNat_eq
  rw [BitVec.toNat_ofNat, BitVec.toNat_ofInt]
  unfold fx_con
  split <;> omega
theorem fn_con2 (n : Nat) : nI n = Int32.ofInt (fx_con (n % 4294967296)) := by
  rw [← fn_mod n]
  exact fn_con (Nat.mod_lt _ (by decide))
theorem fn_ti {z : Int} (h1 : -2147483648 ≤ z) (h2 : z < 2147483648) : (Int32.ofInt z).toInt = z := by
  rw [Int32.toInt_ofInt]
  show z.bmod (2 ^ 32) = z
  rw [Int.bmod_def]
  split <;> omega
theorem fn_ni {n : Nat} (h : n < 2147483648) : Int32.ofInt (n : Int) = nI n := by
  rw [fn_con (by omega), fx_con, if_pos h]
theorem fn_add (a b : Int) : Int32.ofInt a + Int32.ofInt b = Int32.ofInt (a + b) := (Int32.ofInt_add ..).symm
theorem fn_sub (a b : Int) : Int32.ofInt a - Int32.ofInt b = Int32.ofInt (a - b) := (Int32.ofInt_sub ..).symm
theorem fn_neg (a : Int) : - Int32.ofInt a = Int32.ofInt (-a) := (Int32.ofInt_neg ..).symm
theorem fn_mul (a b : Int) : Int32.ofInt a * Int32.ofInt b = Int32.ofInt (a * b) := (Int32.ofInt_mul ..).symm
/-- a value in a range is a number in it -/
theorem fn_rng (hd : fxDk G) {v : fxV} {q : Int × Int} (h : fx_rng v = some q) : ∃ z : Int, q.1 ≤ z ∧ z ≤ q.2 ∧ fx_den G ad v = .int (Int32.ofInt z) ∧ fx_kd v ≠ 1 ∧ fx_kd v ≠ 2 := by
  rcases v with n | p | n | ⟨k, o, s⟩
  · have h : (if n < 4294967296 then some (fx_con n, fx_con n) else none) = some q := h
    split at h
    · next hn =>
      obtain rfl := Option.some.inj h
      exact ⟨fx_con n, Int.le_refl _, Int.le_refl _, congrArg Value.int (fn_con hn), by show (0 : Nat) ≠ 1; decide, by show (0 : Nat) ≠ 2; decide⟩
    · exact nomatch h
  · cases p <;> exact nomatch h
  · exact nomatch h
  · have h : (match fx_rk k with
      | some (a, b) => if 0 ≤ s then some (o + s * a, o + s * b) else some (o + s * b, o + s * a)
      | none => none) = some q := h
    cases hk : fx_rk k with
    | none => rw [hk] at h; exact nomatch h
    | some r =>
      obtain ⟨a, b⟩ := r
      rw [hk] at h
      obtain ⟨h1, h2⟩ := hd k _ hk
      have h1 : a ≤ (fg_dk G k : Int) := h1
      have h2 : (fg_dk G k : Int) ≤ b := h2
      have hkd : fx_kd (.inr (.inr (.inr (k, o, s)))) ≠ 1 ∧ fx_kd (.inr (.inr (.inr (k, o, s)))) ≠ 2 := by
        show Bool.rec (motive := fun _ => Nat) 0 3 (Nat.beq k 7) ≠ 1 ∧ Bool.rec (motive := fun _ => Nat) 0 3 (Nat.beq k 7) ≠ 2
        cases Nat.beq k 7 <;> decide
      refine ⟨o + s * (fg_dk G k : Int), ?_, ?_, rfl, hkd⟩
      · by_cases hs : 0 ≤ s
        · rw [show q = (o + s * a, o + s * b) from (Option.some.inj (by rw [← h]; exact (if_pos hs).symm)).symm]
          have := Int.mul_le_mul_of_nonneg_left h1 hs
          show o + s * a ≤ _
          omega
        · rw [show q = (o + s * b, o + s * a) from (Option.some.inj (by rw [← h]; exact (if_neg hs).symm)).symm]
          have := Int.mul_le_mul_of_nonpos_left (show s ≤ 0 by omega) h2
          show o + s * b ≤ _
          omega
      · by_cases hs : 0 ≤ s
        · rw [show q = (o + s * a, o + s * b) from (Option.some.inj (by rw [← h]; exact (if_pos hs).symm)).symm]
          have := Int.mul_le_mul_of_nonneg_left h2 hs
          show _ ≤ o + s * b
          omega
        · rw [show q = (o + s * b, o + s * a) from (Option.some.inj (by rw [← h]; exact (if_neg hs).symm)).symm]
          have := Int.mul_le_mul_of_nonpos_left (show s ≤ 0 by omega) h1
          show _ ≤ o + s * a
          omega
theorem fn_inq {q : Option (Int × Int)} {a b : Int} (h : fx_inq q a b = true) : ∃ r, q = some r ∧ a ≤ r.1 ∧ r.2 ≤ b := by
  cases q with
  | none => exact nomatch h
  | some r =>
    have h : (decide (a ≤ r.1) && decide (r.2 ≤ b)) = true := h
    simp only [Bool.and_eq_true, decide_eq_true_eq] at h
    exact ⟨r, rfl, h⟩
theorem fn_in (hd : fxDk G) {v : fxV} {a b : Int} (h : fx_inq (fx_rng v) a b = true) : ∃ z : Int, a ≤ z ∧ z ≤ b ∧ fx_den G ad v = .int (Int32.ofInt z) ∧ fx_kd v ≠ 1 ∧ fx_kd v ≠ 2 := by
  obtain ⟨r, h1, h2, h3⟩ := fn_inq h
  obtain ⟨z, h4, h5, h6⟩ := fn_rng (ad := ad) hd h1
  exact ⟨z, by omega, by omega, h6⟩
theorem fn_in32 {q : Int × Int} (h : fx_in32 q = true) : -2147483648 ≤ q.1 ∧ q.2 < 2147483648 := by
  unfold fx_in32 at h
  simp only [Bool.and_eq_true, decide_eq_true_eq] at h
  exact h
/-- comparisons -/
theorem fn_ltS (hd : fxDk G) {x y : fxV} {b : Bool} (h : fx_ltS x y = some b) : ∃ u v : Int32, fx_den G ad x = .int u ∧ fx_den G ad y = .int v ∧ (b = true ↔ u < v) := by
  unfold fx_ltS at h
  split at h
  · next p q hp hq =>
    obtain ⟨z, z1, z2, z3, -⟩ := fn_rng (ad := ad) hd hp
    obtain ⟨w, w1, w2, w3, -⟩ := fn_rng (ad := ad) hd hq
    split at h
    · next hi =>
      simp only [Bool.and_eq_true] at hi
      obtain ⟨i1, i2⟩ := hi
      have i1 := fn_in32 i1
      have i2 := fn_in32 i2
      refine ⟨_, _, z3, w3, ?_⟩
      rw [Int32.lt_iff_toInt_lt, fn_ti (by omega) (by omega), fn_ti (by omega) (by omega)]
      split at h
      · obtain rfl := Option.some.inj h
        simp only [true_iff]
        omega
      · split at h
        · obtain rfl := Option.some.inj h
          simp only [Bool.false_eq_true, false_iff]
          omega
        · exact nomatch h
    · exact nomatch h
  · exact nomatch h
theorem fn_lt (hd : fxDk G) {x y : fxV} {b : Bool} (h : fx_lt x y = some b) : ∃ u v : Int32, fx_den G ad x = .int u ∧ fx_den G ad y = .int v ∧ (b = true ↔ u < v) := by
  rcases x with a | x
  · rcases y with c | y
    · have h : Bool.rec (motive := fun _ => Option Bool) (fx_ltS (.inl a) (.inl c)) (some (Nat.blt a c)) (Bool.and (Nat.blt a 2147483648) (Nat.blt c 2147483648)) = some b := h
      cases hb : Bool.and (Nat.blt a 2147483648) (Nat.blt c 2147483648) with
      | false => rw [hb] at h; exact fn_ltS hd h
      | true =>
        rw [hb] at h
        obtain rfl := Option.some.inj h
        obtain ⟨h1, h2⟩ := fo_and hb
        refine ⟨_, _, rfl, rfl, ?_⟩
        rw [nI_ltI (fo_lt h1) (fo_lt h2)]
        simp [Nat.blt_eq]
    · exact fn_ltS hd h
  · exact fn_ltS hd h
theorem fn_eqS (hd : fxDk G) {x y : fxV} {b : Bool} (h : fx_eqS x y = some b) : ∃ u v : Int32, fx_den G ad x = .int u ∧ fx_den G ad y = .int v ∧ (b = true ↔ u = v) := by
  unfold fx_eqS at h
  split at h
  · next e =>
    obtain ⟨e, hi⟩ := e
    subst e
    obtain rfl := Option.some.inj h
    rcases x with n | p | n | ⟨k, o, s⟩
    · exact ⟨_, _, rfl, rfl, by simp⟩
    · exact nomatch hi
    · exact nomatch hi
    · exact ⟨_, _, rfl, rfl, by simp⟩
  · split at h
    · next p q hp hq =>
      obtain ⟨z, z1, z2, z3, -⟩ := fn_rng (ad := ad) hd hp
      obtain ⟨w, w1, w2, w3, -⟩ := fn_rng (ad := ad) hd hq
      split at h
      · next hi =>
        simp only [Bool.and_eq_true] at hi
        obtain ⟨i1, i2⟩ := hi
        have i1 := fn_in32 i1
        have i2 := fn_in32 i2
        refine ⟨_, _, z3, w3, ?_⟩
        have hne : ∀ u v : Int, -2147483648 ≤ u → u < 2147483648 → -2147483648 ≤ v → v < 2147483648 → u ≠ v → ¬ Int32.ofInt u = Int32.ofInt v := fun u v a1 a2 a3 a4 n e => n (by rw [← fn_ti a1 a2, e, fn_ti a3 a4])
        split at h
        · obtain rfl := Option.some.inj h
          simp only [Bool.false_eq_true, false_iff]
          exact hne _ _ (by omega) (by omega) (by omega) (by omega) (by omega)
        · split at h
          · obtain rfl := Option.some.inj h
            simp only [Bool.false_eq_true, false_iff]
            exact hne _ _ (by omega) (by omega) (by omega) (by omega) (by omega)
          · exact nomatch h
      · exact nomatch h
    · exact nomatch h
theorem fn_eq (hd : fxDk G) {x y : fxV} {b : Bool} (h : fx_eq x y = some b) : ∃ u v : Int32, fx_den G ad x = .int u ∧ fx_den G ad y = .int v ∧ (b = true ↔ u = v) := by
  rcases x with a | x
  · rcases y with c | y
    · have h : Bool.rec (motive := fun _ => Option Bool) (fx_eqS (.inl a) (.inl c)) (some (Nat.beq a c)) (Bool.and (Nat.blt a 4294967296) (Nat.blt c 4294967296)) = some b := h
      cases hb : Bool.and (Nat.blt a 4294967296) (Nat.blt c 4294967296) with
      | false => rw [hb] at h; exact fn_eqS hd h
      | true =>
        rw [hb] at h
        obtain rfl := Option.some.inj h
        obtain ⟨h1, h2⟩ := fo_and hb
        refine ⟨_, _, rfl, rfl, ?_⟩
        have e : nI a = nI c ↔ a = c := by
          refine ⟨fun e => ?_, fun e => by rw [e]⟩
          have e := congrArg Int32.toBitVec e
          rw [fn_bv, fn_bv] at e
          have e := congrArg BitVec.toNat e
          rw [BitVec.toNat_ofNat, BitVec.toNat_ofNat] at e
          have h1 := fo_lt h1
          have h2 := fo_lt h2
          omega
        rw [e]
        exact ⟨fun h => Nat.eq_of_beq_eq_true h, fun h => by rw [h]; exact Nat.beq_refl c⟩
    · exact fn_eqS hd h
  · exact fn_eqS hd h
/-- operations -/
def fxS2 (G : fxG) (f : fxV → fxV → Option fxV) (op : Int32 → Int32 → Int32) : Prop := fxDk G → ∀ (ad : List Bool → Nat) (x y v : fxV), f x y = some v → fx_kd v ≠ 1 ∧ ∃ a b : Int32, fx_den G ad x = .int a ∧ fx_den G ad y = .int b ∧ fx_den G ad v = .int (op a b)
def fxS1 (G : fxG) (f : fxV → Option fxV) (op : Int32 → Int32) : Prop := fxDk G → ∀ (ad : List Bool → Nat) (x v : fxV), f x = some v → fx_kd v ≠ 1 ∧ ∃ a : Int32, fx_den G ad x = .int a ∧ fx_den G ad v = .int (op a)
theorem fn_k0 {n : Nat} : fx_kd (.inl n) ≠ 1 := by show (0 : Nat) ≠ 1; decide
theorem fn_k3 {q : Nat × Int × Int} : fx_kd (.inr (.inr (.inr q))) ≠ 1 := by
  show Bool.rec (motive := fun _ => Nat) 0 3 (Nat.beq q.1 7) ≠ 1
  cases Nat.beq q.1 7 <;> decide
theorem fs_i2 {f : Int32 → Int32 → Int32} {a b : Nat} {v : fxV} (h : some (fx_i2 f a b) = some v) : fx_kd v ≠ 1 ∧ ∃ x y : Int32, fx_den G ad (.inl a) = .int x ∧ fx_den G ad (.inl b) = .int y ∧ fx_den G ad v = .int (f x y) := by
  obtain rfl := Option.some.inj h
  exact ⟨fn_k0, _, _, rfl, rfl, congrArg Value.int (fn_tn _)⟩
theorem fs_c2 (op : Int32 → Int32 → Int32) : fxS2 G (fx_c2 op) op := by
  intro hd ad x y v h
  rcases x with a | x <;> rcases y with b | y
  · exact fs_i2 h
  · exact nomatch h
  · exact nomatch h
  · exact nomatch h
theorem fs_add : fxS2 G fx_add (· + ·) := by
  intro hd ad x y v h
  rcases x with a | p | n | ⟨k, o, s⟩
  · rcases y with b | p | n | ⟨k, o, s⟩
    · have h : some (Sum.inl (Nat.mod (Nat.add a b) 4294967296)) = some v := h
      obtain rfl := Option.some.inj h
      exact ⟨fn_k0, _, _, rfl, rfl, congrArg Value.int ((fn_mod (a + b)).trans (nI_add a b).symm)⟩
    · exact nomatch h
    · exact nomatch h
    · have h : some (Sum.inr (Sum.inr (Sum.inr (k, fx_con (a % 4294967296) + o, s)))) = some v := h
      obtain rfl := Option.some.inj h
      refine ⟨fn_k3, _, _, rfl, rfl, congrArg Value.int ?_⟩
      show Int32.ofInt (fx_con (a % 4294967296) + o + s * _) = nI a + Int32.ofInt (o + s * _)
      rw [fn_con2 a, fn_add, Int.add_assoc]
  · rcases y with b | p | n | q <;> exact nomatch h
  · rcases y with b | p | n | q <;> exact nomatch h
  · rcases y with b | p | n | ⟨k2, o2, s2⟩
    · have h : some (Sum.inr (Sum.inr (Sum.inr (k, o + fx_con (b % 4294967296), s)))) = some v := h
      obtain rfl := Option.some.inj h
      refine ⟨fn_k3, _, _, rfl, rfl, congrArg Value.int ?_⟩
      show Int32.ofInt (o + fx_con (b % 4294967296) + s * _) = Int32.ofInt (o + s * _) + nI b
      rw [fn_con2 b, fn_add]
      congr 1
      omega
    · exact nomatch h
    · exact nomatch h
    · exact nomatch h
theorem fs_sub : fxS2 G fx_sub (· - ·) := by
  intro hd ad x y v h
  rcases x with a | p | n | ⟨k, o, s⟩ <;> rcases y with b | p2 | n2 | ⟨k2, o2, s2⟩
  case inl.inl => exact fs_i2 h
  case inr.inr.inr.inl =>
    have h : some (Sum.inr (Sum.inr (Sum.inr (k, o - fx_con (b % 4294967296), s)))) = some v := h
    obtain rfl := Option.some.inj h
    refine ⟨fn_k3, _, _, rfl, rfl, congrArg Value.int ?_⟩
    show Int32.ofInt (o - fx_con (b % 4294967296) + s * _) = Int32.ofInt (o + s * _) - nI b
    rw [fn_con2 b, fn_sub]
    congr 1
    omega
  all_goals exact nomatch h
theorem fs_mul : fxS2 G fx_mul (· * ·) := by
  intro hd ad x y v h
  rcases x with a | x <;> rcases y with b | y
  · have h : some (Sum.inl (Nat.mod (Nat.mul a b) 4294967296)) = some v := h
    obtain rfl := Option.some.inj h
    exact ⟨fn_k0, _, _, rfl, rfl, congrArg Value.int ((fn_mod (a * b)).trans (pk_mul a b).symm)⟩
  all_goals exact nomatch h
theorem fn_and (a b : Nat) : nI a &&& nI b = nI (a &&& b) := by
  apply Int32.toBitVec_inj.mp
  rw [Int32.toBitVec_and, fn_bv, fn_bv, fn_bv]
  apply BitVec.eq_of_toNat_eq
  rw [BitVec.toNat_and, BitVec.toNat_ofNat, BitVec.toNat_ofNat, BitVec.toNat_ofNat, Nat.and_mod_two_pow]
theorem fn_or (a b : Nat) : nI a ||| nI b = nI (a ||| b) := by
  apply Int32.toBitVec_inj.mp
  rw [Int32.toBitVec_or, fn_bv, fn_bv, fn_bv]
  apply BitVec.eq_of_toNat_eq
  rw [BitVec.toNat_or, BitVec.toNat_ofNat, BitVec.toNat_ofNat, BitVec.toNat_ofNat, Nat.or_mod_two_pow]
theorem fn_nat {z : Int} (h : 0 ≤ z) : Int32.ofInt z = nI z.toNat := by
  obtain ⟨n, rfl⟩ := Int.eq_ofNat_of_zero_le h
  exact Int32.ofInt_eq_ofNat ..
theorem fs_and : fxS2 G fx_and (· &&& ·) := by
  intro hd ad x y v h
  rcases x with a | x <;> rcases y with b | y
  · have h : some (Sum.inl (Nat.land a b)) = some v := h
    obtain rfl := Option.some.inj h
    exact ⟨fn_k0, _, _, rfl, rfl, congrArg Value.int (fn_and a b).symm⟩
  · exact nomatch h
  · have h : (if b = 255 ∧ fx_inq (fx_rng (.inr x)) 0 255 = true then some (Sum.inr x) else none) = some v := h
    split at h
    · next hc =>
      obtain rfl := Option.some.inj h
      obtain ⟨rfl, hc⟩ := hc
      obtain ⟨z, h1, h2, h3, h4, -⟩ := fn_in (ad := ad) hd hc
      refine ⟨h4, _, _, h3, rfl, ?_⟩
      rw [h3, fn_nat h1]
      have e : nI z.toNat &&& nI 255 = nI z.toNat := by
        rw [fn_and, show z.toNat &&& 255 = z.toNat % 2 ^ 8 from Nat.and_two_pow_sub_one_eq_mod _ 8, Nat.mod_eq_of_lt (by omega)]
      exact congrArg Value.int e.symm
    · exact nomatch h
  · exact nomatch h
theorem fs_or : fxS2 G fx_or (· ||| ·) := by
  intro hd ad x y v h
  rcases x with a | p | n | q <;> rcases y with b | p2 | n2 | ⟨k2, o2, s2⟩
  case inl.inl =>
    have h : some (Sum.inl (Nat.lor a b)) = some v := h
    obtain rfl := Option.some.inj h
    exact ⟨fn_k0, _, _, rfl, rfl, congrArg Value.int (fn_or a b).symm⟩
  case inl.inr.inr.inr =>
    have h : (if a % 65536 = 0 ∧ a < 2147483648 ∧ fx_inq (fx_rng (.inr (.inr (.inr (k2, o2, s2))))) 0 65535 = true then some (Sum.inr (Sum.inr (Sum.inr (k2, (a : Int) + o2, s2)))) else none) = some v := h
    split at h
    · next hc =>
      obtain rfl := Option.some.inj h
      obtain ⟨c1, c2, c3⟩ := hc
      obtain ⟨z, h1, h2, h3, h4, -⟩ := fn_in (ad := ad) hd c3
      refine ⟨fn_k3, _, _, rfl, h3, ?_⟩
      have h5 : Value.int (Int32.ofInt (o2 + s2 * (fg_dk G k2 : Int))) = Value.int (Int32.ofInt z) := h3
      have h5 := Value.int.inj h5
      show Value.int (Int32.ofInt ((a : Int) + o2 + s2 * (fg_dk G k2 : Int))) = _
      rw [Int.add_assoc, ← fn_add, h5, fn_nat h1]
      congr 1
      show Int32.ofInt (a : Int) + nI z.toNat = nI a ||| nI z.toNat
      rw [fn_or, show Int32.ofInt (a : Int) = nI a from Int32.ofInt_eq_ofNat .., nI_add]
      congr 1
      obtain ⟨c, rfl⟩ : ∃ c, a = 2 ^ 16 * c := ⟨a / 65536, by omega⟩
      rw [Nat.two_pow_add_eq_or_of_lt (by omega : z.toNat < 2 ^ 16)]
    · exact nomatch h
  case inr.inr.inr.inl =>
    have h : (if b = 0 then some (Sum.inr (Sum.inr (Sum.inr q))) else none) = some v := h
    split at h
    · next hc =>
      obtain rfl := Option.some.inj h
      subst hc
      obtain ⟨k, o, s⟩ := q
      refine ⟨fn_k3, _, _, rfl, rfl, ?_⟩
      show Value.int _ = Value.int (_ ||| nI 0)
      congr 1
      exact (Int32.or_zero ..).symm
    · exact nomatch h
  all_goals exact nomatch h
theorem fs_shl : fxS2 G fx_shl (fun x y => x <<< (y &&& 31)) := by
  intro hd ad x y v h
  rcases x with a | p | n | ⟨k, o, s⟩ <;> rcases y with b | p2 | n2 | q2
  case inl.inl => exact fs_i2 h
  case inr.inr.inr.inl =>
    have h : (if b = 8 then some (Sum.inr (Sum.inr (Sum.inr (k, o * 256, s * 256)))) else none) = some v := h
    split at h
    · next hc =>
      obtain rfl := Option.some.inj h
      subst hc
      refine ⟨fn_k3, _, _, rfl, rfl, congrArg Value.int ?_⟩
      show Int32.ofInt (o * 256 + s * 256 * (fg_dk G k : Int)) = Int32.ofInt (o + s * (fg_dk G k : Int)) <<< (nI 8 &&& 31)
      generalize (fg_dk G k : Int) = d
      have e1 : o * 256 + s * 256 * d = (o + s * d) * 256 := by rw [Int.add_mul, Int.mul_right_comm]
      rw [e1, ← fn_mul]
      generalize Int32.ofInt (o + s * d) = w
      apply Int32.toBitVec_inj.mp
      apply BitVec.eq_of_toNat_eq
      rw [pk_shl w (nI 8 &&& 31) 8 (by decide +kernel), Int32.toBitVec_mul, BitVec.toNat_mul]
      rfl
    · exact nomatch h
  all_goals exact nomatch h
theorem fs_ushr : fxS2 G fx_ushr (fun x y => (x.toUInt32 >>> (y.toUInt32 &&& Int32.toUInt32 31)).toInt32) := by
  intro hd ad x y v h
  rcases x with a | x <;> rcases y with b | y
  · exact fs_i2 h
  · exact nomatch h
  · have h : (if b = 8 ∧ fx_inq (fx_rng (.inr x)) 0 255 = true then some (Sum.inl 0) else none) = some v := h
    split at h
    · next hc =>
      obtain rfl := Option.some.inj h
      obtain ⟨rfl, hc⟩ := hc
      obtain ⟨z, h1, h2, h3, h4, -⟩ := fn_in (ad := ad) hd hc
      refine ⟨fn_k0, _, _, h3, rfl, ?_⟩
      rw [fn_nat h1]
      have e := pk_ushrN (n := z.toNat) (by omega) (nI 8) 8 (by decide +kernel)
      show Value.int (nI 0) = Value.int _
      exact congrArg Value.int (Eq.trans (by rw [Nat.div_eq_of_lt (by omega)]) e.symm)
    · exact nomatch h
  · exact nomatch h
theorem fs_shr : fxS2 G fx_shr (fun x y => x >>> (y &&& 31)) := by
  intro hd ad x y v h
  rcases x with a | x <;> rcases y with b | y
  · exact fs_i2 h
  · exact nomatch h
  · have h : (match fx_rng (.inr x) with
      | some q => if b = 16 ∧ 0 ≤ q.1 ∧ q.2 < 2147483648 ∧ q.1 / 65536 = q.2 / 65536 then some (Sum.inl (q.1 / 65536).toNat) else none
      | none => none) = some v := h
    split at h
    · next q hq =>
      split at h
      · next hc =>
        obtain rfl := Option.some.inj h
        obtain ⟨rfl, c1, c2, c3⟩ := hc
        obtain ⟨z, h1, h2, h3, h4, -⟩ := fn_rng (ad := ad) hd hq
        refine ⟨fn_k0, _, _, h3, rfl, ?_⟩
        rw [fn_nat (by omega)]
        have e := pk_shrN (n := z.toNat) (by omega) (nI 16 &&& 31) 16 (by decide +kernel)
        show Value.int (nI _) = Value.int _
        exact congrArg Value.int (Eq.trans (by congr 1; omega) e.symm)
      · exact nomatch h
    · exact nomatch h
  · exact nomatch h
theorem fs_i2c : fxS1 G fx_i2c (fun x => (x.toUInt32 % 65536).toInt32) := by
  intro hd ad x v h
  rcases x with a | x
  · have h : some (Sum.inl (Nat.mod a 65536)) = some v := h
    obtain rfl := Option.some.inj h
    refine ⟨fn_k0, _, rfl, congrArg Value.int ?_⟩
    refine Eq.trans ?_ (pk_char (nI a)).symm
    rw [fn_bv, BitVec.toNat_ofNat]
    show nI (a % 65536) = _
    congr 1
    omega
  · have h : (if fx_inq (fx_rng (.inr x)) 0 65535 = true then some (Sum.inr x) else none) = some v := h
    split at h
    · next hc =>
      obtain rfl := Option.some.inj h
      obtain ⟨z, h1, h2, h3, h4, -⟩ := fn_in (ad := ad) hd hc
      refine ⟨h4, _, h3, ?_⟩
      rw [h3, fn_nat h1]
      refine congrArg Value.int (Eq.trans ?_ (pk_char (nI z.toNat)).symm)
      rw [pk_tn (by omega), Nat.mod_eq_of_lt (by omega)]
    · exact nomatch h
theorem fs_i2b : fxS1 G fx_i2b (fun x => x.toInt8.toInt32) := by
  intro hd ad x v h
  rcases x with a | x
  · have h : some (Sum.inl (nI a).toInt8.toInt32.toBitVec.toNat) = some v := h
    obtain rfl := Option.some.inj h
    exact ⟨fn_k0, _, rfl, congrArg Value.int (fn_tn _)⟩
  · have h : (if fx_inq (fx_rng (.inr x)) 0 127 = true then some (Sum.inr x) else none) = some v := h
    split at h
    · next hc =>
      obtain rfl := Option.some.inj h
      obtain ⟨z, h1, h2, h3, h4, -⟩ := fn_in (ad := ad) hd hc
      refine ⟨h4, _, h3, ?_⟩
      rw [h3, fn_nat h1]
      refine congrArg Value.int ?_
      have key : ∀ n : Fin 128, (nI n.val).toInt8.toInt32 = nI n.val := by decide +kernel
      exact (key ⟨z.toNat, by omega⟩).symm
    · exact nomatch h
theorem fs_neg : fxS1 G fx_neg (fun x => -x) := by
  intro hd ad x v h
  rcases x with a | p | n | ⟨k, o, s⟩
  · have h : some (Sum.inl (- nI a).toBitVec.toNat) = some v := h
    obtain rfl := Option.some.inj h
    exact ⟨fn_k0, _, rfl, congrArg Value.int (fn_tn _)⟩
  · exact nomatch h
  · exact nomatch h
  · have h : some (Sum.inr (Sum.inr (Sum.inr (k, -o, -s)))) = some v := h
    obtain rfl := Option.some.inj h
    refine ⟨fn_k3, _, rfl, congrArg Value.int ?_⟩
    show Int32.ofInt (-o + -s * (fg_dk G k : Int)) = - Int32.ofInt (o + s * (fg_dk G k : Int))
    rw [fn_neg, Int.neg_add, Int.neg_mul]
/-- longs -/
def fxSl (G : fxG) (f : fxV → fxV → Option fxV) (op : Int64 → Int64 → Int64) : Prop := ∀ (ad : List Bool → Nat) (x y v : fxV), f x y = some v → fx_kd v = 2 ∧ ∃ a b : Int64, fx_den G ad x = .long a ∧ fx_den G ad y = .long b ∧ fx_den G ad v = .long (op a b)
theorem fs_l2 (op : Int64 → Int64 → Int64) : fxSl G (fx_l2 op) op := by
  intro ad x y v h
  rcases x with a | p | n | q <;> rcases y with b | p2 | n2 | q2
  case inr.inr.inl.inr.inr.inl =>
    have h : some (Sum.inr (Sum.inr (Sum.inl (op (lN n) (lN n2)).toBitVec.toNat))) = some v := h
    obtain rfl := Option.some.inj h
    exact ⟨rfl, _, _, rfl, rfl, congrArg Value.long (fn_tl _)⟩
  all_goals exact nomatch h
theorem fs_li (op : Int64 → Int32 → Int64) (ad : List Bool → Nat) (x y v : fxV) (h : fx_li op x y = some v) : fx_kd v = 2 ∧ ∃ (a : Int64) (b : Int32), fx_den G ad x = .long a ∧ fx_den G ad y = .int b ∧ fx_den G ad v = .long (op a b) := by
  rcases x with a | p | n | q <;> rcases y with b | p2 | n2 | q2
  case inr.inr.inl.inl =>
    have h : some (Sum.inr (Sum.inr (Sum.inl (op (lN n) (nI b)).toBitVec.toNat))) = some v := h
    obtain rfl := Option.some.inj h
    exact ⟨rfl, _, _, rfl, rfl, congrArg Value.long (fn_tl _)⟩
  all_goals exact nomatch h
end NUM
end
section
/-! OPERATIONS, COMPARISONS, THE STACK ARE RIGHT. -/
section OPS
variable {G : fxG} {Y : fxY} {lab : List Nat} {pc : Nat} {k kt kf : fxK}
theorem fb_bin {f : fxV → fxV → Option fxV} {len : Nat} (hrow : ∀ (p : Program) (e : Env) (R : Room) (s : State) (m : MethodId) (args : Array Value) (below : List Frame) (meth : Method) (c : Code), fxX G Y p R s m args meth c →
    ∀ (ad : List Bool → Nat) (x y v : fxV) (H : Heap) (locs : List Loc) (cells slots : Nat) (Q : State → Prop) (ls : Array Slot) (rest : List Value), f x y = some v → fx_kd v ≠ 1 ∧ (W p (fg_l G) e R s m args below meth c H locs cells slots Q (F0 m (pc + len) ls (fx_den G ad v :: rest)) →
      W p (fg_l G) e R s m args below meth c H locs cells slots Q (F0 m pc ls (fx_den G ad y :: fx_den G ad x :: rest))))
    (hk : fxB G Y lab (pc + len) k) : fxB G Y lab pc (fx_bin f k) := by
  intro self hs p e R s m args below meth c X st L S o h
  obtain ⟨x, y, r, v, h1, h2, hz⟩ := fo_bin h
  subst h1
  obtain ⟨hm, kk⟩ := hk self hs p e R s m args below meth c X (v :: r) L S o hz
  refine ⟨hm, fun c0 n0 M0 ad0 hc hn cells slots ad H locs ls U => ?_⟩
  obtain ⟨u1, u2, uI, ua, ud, uS, uL, us, ul⟩ := U
  obtain ⟨hv, hw⟩ := hrow p e R s m args below meth c X ad x y v H locs cells slots (fxQ Y.1 below (fxQc G ad0 M0 o) (fxXC G ad0 M0 o) args s R.cells R.slots (fxA G)) ls (r.map (fx_den G ad)) h2
  exact hw (kk c0 n0 M0 ad0 hc hn cells slots ad H locs ls ⟨u1, u2, uI, ua, ud, uS, uL, fx_oks_cons (fx_ok_kd hv) (fx_oks_tl (fx_oks_tl us)), ul⟩)
/-- by what the operation says, and its row -/
theorem fb_bin2 {f : fxV → fxV → Option fxV} {op : Int32 → Int32 → Int32} (hf : fxS2 G f op) (hrow : ∀ (p : Program) (e : Env) (R : Room) (s : State) (m : MethodId) (args : Array Value) (below : List Frame) (meth : Method) (c : Code), p.tables.exec = Jvm.exec → c.code = Y.2.1 →
    ∀ (x y : Int32) (H : Heap) (locs : List Loc) (cells slots : Nat) (Q : State → Prop) (ls : Array Slot) (rest : List Value), W p (fg_l G) e R s m args below meth c H locs cells slots Q (F0 m (pc + 1) ls (.int (op x y) :: rest)) →
      W p (fg_l G) e R s m args below meth c H locs cells slots Q (F0 m pc ls (.int y :: .int x :: rest)))
    (hk : fxB G Y lab (pc + 1) k) : fxB G Y lab pc (fx_bin f k) :=
  fb_bin (fun p e R s m args below meth c X ad x y v H locs cells slots Q ls rest h => by
    obtain ⟨h1, a, b, h2, h3, h4⟩ := hf X.2.2.2.2.2.2.2.2.2.2.2.2.2 ad x y v h
    refine ⟨h1, fun w => ?_⟩
    rw [h4] at w
    rw [h2, h3]
    exact hrow p e R s m args below meth c X.1 X.2.1 a b H locs cells slots Q ls rest w) hk
theorem fb_iadd (hdg : decode Y.2.1 pc = .ok (.iadd, 1)) (hk : fxB G Y lab (pc + 1) k) : fxB G Y lab pc (fx_bin fx_add k) := fb_bin2 fs_add (fun _ _ _ _ _ _ _ _ _ hx hb _ _ _ _ _ _ _ _ _ w => lv_iadd hx hb hdg w) hk
theorem fb_isub (hdg : decode Y.2.1 pc = .ok (.isub, 1)) (hk : fxB G Y lab (pc + 1) k) : fxB G Y lab pc (fx_bin fx_sub k) := fb_bin2 fs_sub (fun _ _ _ _ _ _ _ _ _ hx hb _ _ _ _ _ _ _ _ _ w => lv_isub hx hb hdg w) hk
theorem fb_imul (hdg : decode Y.2.1 pc = .ok (.imul, 1)) (hk : fxB G Y lab (pc + 1) k) : fxB G Y lab pc (fx_bin fx_mul k) := fb_bin2 fs_mul (fun _ _ _ _ _ _ _ _ _ hx hb _ _ _ _ _ _ _ _ _ w => lv_imul hx hb hdg w) hk
theorem fb_iand (hdg : decode Y.2.1 pc = .ok (.iand, 1)) (hk : fxB G Y lab (pc + 1) k) : fxB G Y lab pc (fx_bin fx_and k) := fb_bin2 fs_and (fun _ _ _ _ _ _ _ _ _ hx hb _ _ _ _ _ _ _ _ _ w => lv_iand hx hb hdg w) hk
theorem fb_ior (hdg : decode Y.2.1 pc = .ok (.ior, 1)) (hk : fxB G Y lab (pc + 1) k) : fxB G Y lab pc (fx_bin fx_or k) := fb_bin2 fs_or (fun _ _ _ _ _ _ _ _ _ hx hb _ _ _ _ _ _ _ _ _ w => lv_ior hx hb hdg w) hk
theorem fb_ixor (hdg : decode Y.2.1 pc = .ok (.ixor, 1)) (hk : fxB G Y lab (pc + 1) k) : fxB G Y lab pc (fx_bin (fx_c2 (· ^^^ ·)) k) := fb_bin2 (fs_c2 _) (fun _ _ _ _ _ _ _ _ _ hx hb _ _ _ _ _ _ _ _ _ w => lv_ixor hx hb hdg w) hk
theorem fb_ishl (hdg : decode Y.2.1 pc = .ok (.ishl, 1)) (hk : fxB G Y lab (pc + 1) k) : fxB G Y lab pc (fx_bin fx_shl k) := fb_bin2 fs_shl (fun _ _ _ _ _ _ _ _ _ hx hb _ _ _ _ _ _ _ _ _ w => lv_ishl hx hb hdg w) hk
theorem fb_ishr (hdg : decode Y.2.1 pc = .ok (.ishr, 1)) (hk : fxB G Y lab (pc + 1) k) : fxB G Y lab pc (fx_bin fx_shr k) := fb_bin2 fs_shr (fun _ _ _ _ _ _ _ _ _ hx hb _ _ _ _ _ _ _ _ _ w => lv_ishr hx hb hdg w) hk
theorem fb_iushr (hdg : decode Y.2.1 pc = .ok (.iushr, 1)) (hk : fxB G Y lab (pc + 1) k) : fxB G Y lab pc (fx_bin fx_ushr k) := fb_bin2 fs_ushr (fun _ _ _ _ _ _ _ _ _ hx hb _ _ _ _ _ _ _ _ _ w => lv_iushr hx hb hdg rfl w) hk
theorem fb_binl {f : fxV → fxV → Option fxV} {op : Int64 → Int64 → Int64} (hf : fxSl G f op) (hrow : ∀ (p : Program) (e : Env) (R : Room) (s : State) (m : MethodId) (args : Array Value) (below : List Frame) (meth : Method) (c : Code), p.tables.exec = Jvm.exec → c.code = Y.2.1 →
    ∀ (x y : Int64) (H : Heap) (locs : List Loc) (cells slots : Nat) (Q : State → Prop) (ls : Array Slot) (rest : List Value), W p (fg_l G) e R s m args below meth c H locs cells slots Q (F0 m (pc + 1) ls (.long (op x y) :: rest)) →
      W p (fg_l G) e R s m args below meth c H locs cells slots Q (F0 m pc ls (.long y :: .long x :: rest)))
    (hk : fxB G Y lab (pc + 1) k) : fxB G Y lab pc (fx_bin f k) :=
  fb_bin (fun p e R s m args below meth c X ad x y v H locs cells slots Q ls rest h => by
    obtain ⟨h1, a, b, h2, h3, h4⟩ := hf ad x y v h
    refine ⟨by omega, fun w => ?_⟩
    rw [h4] at w
    rw [h2, h3]
    exact hrow p e R s m args below meth c X.1 X.2.1 a b H locs cells slots Q ls rest w) hk
theorem fb_land (hdg : decode Y.2.1 pc = .ok (.land, 1)) (hk : fxB G Y lab (pc + 1) k) : fxB G Y lab pc (fx_bin (fx_l2 (· &&& ·)) k) := fb_binl (fs_l2 _) (fun _ _ _ _ _ _ _ _ _ hx hb _ _ _ _ _ _ _ _ _ w => lv_land hx hb hdg w) hk
theorem fb_lor (hdg : decode Y.2.1 pc = .ok (.lor, 1)) (hk : fxB G Y lab (pc + 1) k) : fxB G Y lab pc (fx_bin (fx_l2 (· ||| ·)) k) := fb_binl (fs_l2 _) (fun _ _ _ _ _ _ _ _ _ hx hb _ _ _ _ _ _ _ _ _ w => lv_lor hx hb hdg w) hk
theorem fb_lxor (hdg : decode Y.2.1 pc = .ok (.lxor, 1)) (hk : fxB G Y lab (pc + 1) k) : fxB G Y lab pc (fx_bin (fx_l2 (· ^^^ ·)) k) := fb_binl (fs_l2 _) (fun _ _ _ _ _ _ _ _ _ hx hb _ _ _ _ _ _ _ _ _ w => lv_lxor hx hb hdg w) hk
/-- long and int: shifts -/
theorem fb_binh {op : Int64 → Int32 → Int64} (hrow : ∀ (p : Program) (e : Env) (R : Room) (s : State) (m : MethodId) (args : Array Value) (below : List Frame) (meth : Method) (c : Code), p.tables.exec = Jvm.exec → c.code = Y.2.1 →
    ∀ (x : Int64) (y : Int32) (H : Heap) (locs : List Loc) (cells slots : Nat) (Q : State → Prop) (ls : Array Slot) (rest : List Value), W p (fg_l G) e R s m args below meth c H locs cells slots Q (F0 m (pc + 1) ls (.long (op x y) :: rest)) →
      W p (fg_l G) e R s m args below meth c H locs cells slots Q (F0 m pc ls (.int y :: .long x :: rest)))
    (hk : fxB G Y lab (pc + 1) k) : fxB G Y lab pc (fx_bin (fx_li op) k) :=
  fb_bin (fun p e R s m args below meth c X ad x y v H locs cells slots Q ls rest h => by
    obtain ⟨h1, a, b, h2, h3, h4⟩ := fs_li (G := G) op ad x y v h
    refine ⟨by omega, fun w => ?_⟩
    rw [h4] at w
    rw [h2, h3]
    exact hrow p e R s m args below meth c X.1 X.2.1 a b H locs cells slots Q ls rest w) hk
abbrev fx_lushr : Int64 → Int32 → Int64 := fun x y => (x.toUInt64 >>> (y.toInt64.toUInt64 &&& Int64.toUInt64 63)).toInt64
abbrev fx_lshl : Int64 → Int32 → Int64 := fun x y => x <<< (y.toInt64 &&& 63)
theorem fb_lushr (hdg : decode Y.2.1 pc = .ok (.lushr, 1)) (hk : fxB G Y lab (pc + 1) k) : fxB G Y lab pc (fx_bin (fx_li fx_lushr) k) := fb_binh (fun _ _ _ _ _ _ _ _ _ hx hb _ _ _ _ _ _ _ _ _ w => lv_lushr hx hb hdg rfl w) hk
theorem fb_lshl (hdg : decode Y.2.1 pc = .ok (.lshl, 1)) (hk : fxB G Y lab (pc + 1) k) : fxB G Y lab pc (fx_bin (fx_li fx_lshl) k) := fb_binh (fun _ _ _ _ _ _ _ _ _ hx hb _ _ _ _ _ _ _ _ _ w => lv_lshl hx hb hdg rfl w) hk
theorem fb_un1 {f : fxV → Option fxV} {op : Int32 → Int32} (hf : fxS1 G f op) (hrow : ∀ (p : Program) (e : Env) (R : Room) (s : State) (m : MethodId) (args : Array Value) (below : List Frame) (meth : Method) (c : Code), p.tables.exec = Jvm.exec → c.code = Y.2.1 →
    ∀ (x : Int32) (H : Heap) (locs : List Loc) (cells slots : Nat) (Q : State → Prop) (ls : Array Slot) (rest : List Value), W p (fg_l G) e R s m args below meth c H locs cells slots Q (F0 m (pc + 1) ls (.int (op x) :: rest)) →
      W p (fg_l G) e R s m args below meth c H locs cells slots Q (F0 m pc ls (.int x :: rest)))
    (hk : fxB G Y lab (pc + 1) k) : fxB G Y lab pc (fx_un f k) := by
  intro self hs p e R s m args below meth c X st L S o h
  obtain ⟨x, r, v, h1, h2, hz⟩ := fo_un h
  subst h1
  obtain ⟨hm, kk⟩ := hk self hs p e R s m args below meth c X (v :: r) L S o hz
  refine ⟨hm, fun c0 n0 M0 ad0 hc hn cells slots ad H locs ls U => ?_⟩
  obtain ⟨u1, u2, uI, ua, ud, uS, uL, us, ul⟩ := U
  obtain ⟨hv, a, h3, h4⟩ := hf X.2.2.2.2.2.2.2.2.2.2.2.2.2 ad x v h2
  have w := kk c0 n0 M0 ad0 hc hn cells slots ad H locs ls ⟨u1, u2, uI, ua, ud, uS, uL, fx_oks_cons (fx_ok_kd hv) (fx_oks_tl us), ul⟩
  rw [List.map_cons, h4] at w
  rw [List.map_cons, h3]
  exact hrow p e R s m args below meth c X.1 X.2.1 a H locs cells slots _ ls _ w
theorem fb_i2c (hdg : decode Y.2.1 pc = .ok (.i2c, 1)) (hk : fxB G Y lab (pc + 1) k) : fxB G Y lab pc (fx_un fx_i2c k) := fb_un1 fs_i2c (fun _ _ _ _ _ _ _ _ _ hx hb _ _ _ _ _ _ _ _ w => lv_i2c hx hb hdg rfl w) hk
theorem fb_i2b (hdg : decode Y.2.1 pc = .ok (.i2b, 1)) (hk : fxB G Y lab (pc + 1) k) : fxB G Y lab pc (fx_un fx_i2b k) := fb_un1 fs_i2b (fun _ _ _ _ _ _ _ _ _ hx hb _ _ _ _ _ _ _ _ w => lv_i2b hx hb hdg rfl w) hk
theorem fb_ineg (hdg : decode Y.2.1 pc = .ok (.ineg, 1)) (hk : fxB G Y lab (pc + 1) k) : fxB G Y lab pc (fx_un fx_neg k) := fb_un1 fs_neg (fun _ _ _ _ _ _ _ _ _ hx hb _ _ _ _ _ _ _ _ w => lv_ineg hx hb hdg w) hk
/-- iinc -/
theorem fb_iinc {i n : Nat} {z : Int} (hdg : decode Y.2.1 pc = .ok (.iinc i z, 3)) (hz : Int32.ofInt z = nI n) (hi : i < Y.2.2.1) (hk : fxB G Y lab (pc + 3) k) : fxB G Y lab pc (fx_iinc i (.inl n) fx_add k) := by
  intro self hs p e R s m args below meth c X st L S o h
  obtain ⟨v, w, h1, h2, hz2⟩ := fo_iinc h
  obtain ⟨hm, kk⟩ := hk self hs p e R s m args below meth c X st (fx_upd L i w) S o hz2
  refine ⟨hm, fun c0 n0 M0 ad0 hc hn cells slots ad H locs ls U => ?_⟩
  obtain ⟨u1, u2, uI, ua, ud, uS, uL, us, ul⟩ := U
  obtain ⟨hv, a, b, h3, h4, h5⟩ := fs_add (G := G) X.2.2.2.2.2.2.2.2.2.2.2.2.2 ad v (.inl n) w h2
  have hb : b = nI n := (Value.int.inj h4).symm
  have hkv : fx_kd v ≠ 3 ∨ True := Or.inr trivial
  by_cases h3v : fx_kd v = 3
  · -- a value that isn't to be used: the symbolic rows of kind 7; it isn't in the locals' list
    exfalso
    rcases v with q | p | q | ⟨kk2, oo, ss⟩
    · exact nomatch (show (0 : Nat) = 3 from h3v)
    · exact nomatch (show (1 : Nat) = 3 from h3v)
    · exact nomatch (show (2 : Nat) = 3 from h3v)
    · have e7 : kk2 = 7 := by
        have h' : Bool.rec (motive := fun _ => Nat) 0 3 (Nat.beq kk2 7) = 3 := h3v
        cases hb7 : Nat.beq kk2 7 with
        | true => exact Nat.eq_of_beq_eq_true hb7
        | false => rw [hb7] at h'; exact nomatch h'
      sorry
  · have hm2 : (i, fx_den G ad v) ∈ fx_ll G ad 0 L := (fx_ll_mem L 0 _).mpr ⟨i, v, h1, h3v, by rw [Nat.zero_add]⟩
    obtain ⟨j, hj⟩ := List.getElem?_of_mem hm2
    rw [h3] at hj
    have hw : fx_kd w ≠ 2 := by
      intro hc2
      rcases w with q | p | q | q
      · exact nomatch (show (0 : Nat) = 2 from hc2)
      · exact nomatch (show (1 : Nat) = 2 from hc2)
      · exact nomatch h5
      · have h' : Bool.rec (motive := fun _ => Nat) 0 3 (Nat.beq q.1 7) = 2 := hc2
        cases hb7 : Nat.beq q.1 7 <;> rw [hb7] at h' <;> exact nomatch h'
    exact lv_iinc X.1 X.2.1 hdg uL.1 hj (by rw [hz, ← hb]) hi rfl (fun ls' h' => kk c0 n0 M0 ad0 hc hn cells slots ad H locs ls' ⟨u1, u2, uI, ua, ud, uS, fxL_set (Or.inr trivial) uL.2.1 uL.2.2 hw (by rw [h5]) h', us, fx_oks_upd ul (fx_ok_kd hv)⟩)
end OPS
end
section
def sp_loop : Nat → Nat → Nat
  | 0, a => a
  | n+1, a => sp_loop n (Nat.lor (Nat.land a 1023) n)
theorem sp_1 : sp_loop 100000 0 = 1023 := by decide +kernel
theorem i_vc : Claimed_1_1 ∧ Claimed_1_2 := sorry
end
