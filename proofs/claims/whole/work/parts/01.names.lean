-- ===== PART A: goes FIRST, ahead of the names: the tables' words, and 'selects' of the private methods out of them =====
/-- a private method of a class that the tables say can be made, by its rows of tables_1 -/
def lw_okq (q : MethodName × Nat) : Prop := (q.1.cls ≠ "java/lang/invoke/MethodHandle" ∧ q.1.cls ≠ "java/lang/invoke/VarHandle") ∧ Cond.instantiable q.1.cls q.2 ∈ tables_1 ∧ Cond.privateMethod q.1 ∈ tables_1 ∧ Cond.instanceMethod q.1 ∈ tables_1
theorem lw_p0 : lw_okq (⟨"BargesByBreath", "answerOfReading", "(ZI)I"⟩, 9) := ⟨⟨by decide +kernel, by decide +kernel⟩, List.mem_of_getElem? (i := 20) (by decide +kernel), List.mem_of_getElem? (i := 330) (by decide +kernel), List.mem_of_getElem? (i := 331) (by decide +kernel)⟩
theorem lw_p1 : lw_okq (⟨"BargesByBreath$Fleet", "draftBarge", "(LBargesByBreath$Script;I)Z"⟩, 20) := ⟨⟨by decide +kernel, by decide +kernel⟩, List.mem_of_getElem? (i := 74) (by decide +kernel), List.mem_of_getElem? (i := 347) (by decide +kernel), List.mem_of_getElem? (i := 348) (by decide +kernel)⟩
theorem lw_p2 : lw_okq (⟨"BargesByBreath$Fleet", "bargeOn", "(II)I"⟩, 20) := ⟨⟨by decide +kernel, by decide +kernel⟩, List.mem_of_getElem? (i := 74) (by decide +kernel), List.mem_of_getElem? (i := 363) (by decide +kernel), List.mem_of_getElem? (i := 364) (by decide +kernel)⟩
theorem lw_p3 : lw_okq (⟨"BargesByBreath$Fleet", "draftPassenger", "(LBargesByBreath$Script;I)Z"⟩, 20) := ⟨⟨by decide +kernel, by decide +kernel⟩, List.mem_of_getElem? (i := 74) (by decide +kernel), List.mem_of_getElem? (i := 380) (by decide +kernel), List.mem_of_getElem? (i := 381) (by decide +kernel)⟩
theorem lw_p4 : lw_okq (⟨"BargesByBreath$Rule", "comparison", "(I)Z"⟩, 6) := ⟨⟨by decide +kernel, by decide +kernel⟩, List.mem_of_getElem? (i := 76) (by decide +kernel), List.mem_of_getElem? (i := 393) (by decide +kernel), List.mem_of_getElem? (i := 394) (by decide +kernel)⟩
theorem lw_p5 : lw_okq (⟨"BargesByBreath$Rule", "sum", "(I)Z"⟩, 6) := ⟨⟨by decide +kernel, by decide +kernel⟩, List.mem_of_getElem? (i := 76) (by decide +kernel), List.mem_of_getElem? (i := 397) (by decide +kernel), List.mem_of_getElem? (i := 398) (by decide +kernel)⟩
theorem lw_p6 : lw_okq (⟨"BargesByBreath$Rule", "product", "(I)Z"⟩, 6) := ⟨⟨by decide +kernel, by decide +kernel⟩, List.mem_of_getElem? (i := 76) (by decide +kernel), List.mem_of_getElem? (i := 401) (by decide +kernel), List.mem_of_getElem? (i := 402) (by decide +kernel)⟩
theorem lw_p7 : lw_okq (⟨"BargesByBreath$Rule", "thing", "(I)Z"⟩, 6) := ⟨⟨by decide +kernel, by decide +kernel⟩, List.mem_of_getElem? (i := 76) (by decide +kernel), List.mem_of_getElem? (i := 405) (by decide +kernel), List.mem_of_getElem? (i := 406) (by decide +kernel)⟩
theorem lw_p8 : lw_okq (⟨"BargesByBreath$Rule", "emit", "(I)Z"⟩, 6) := ⟨⟨by decide +kernel, by decide +kernel⟩, List.mem_of_getElem? (i := 76) (by decide +kernel), List.mem_of_getElem? (i := 413) (by decide +kernel), List.mem_of_getElem? (i := 414) (by decide +kernel)⟩
theorem lw_p9 : lw_okq (⟨"BargesByBreath$Rule", "number", "()Z"⟩, 6) := ⟨⟨by decide +kernel, by decide +kernel⟩, List.mem_of_getElem? (i := 76) (by decide +kernel), List.mem_of_getElem? (i := 422) (by decide +kernel), List.mem_of_getElem? (i := 423) (by decide +kernel)⟩
theorem lw_p10 : lw_okq (⟨"BargesByBreath$Fleet", "passOne", "()Z"⟩, 20) := ⟨⟨by decide +kernel, by decide +kernel⟩, List.mem_of_getElem? (i := 74) (by decide +kernel), List.mem_of_getElem? (i := 466) (by decide +kernel), List.mem_of_getElem? (i := 467) (by decide +kernel)⟩
theorem lw_p11 : lw_okq (⟨"BargesByBreath$Fleet", "go", "(I)V"⟩, 20) := ⟨⟨by decide +kernel, by decide +kernel⟩, List.mem_of_getElem? (i := 74) (by decide +kernel), List.mem_of_getElem? (i := 487) (by decide +kernel), List.mem_of_getElem? (i := 488) (by decide +kernel)⟩
theorem lw_p12 : lw_okq (⟨"BargesByBreath$Fleet", "blowBack", "(II)Z"⟩, 20) := ⟨⟨by decide +kernel, by decide +kernel⟩, List.mem_of_getElem? (i := 74) (by decide +kernel), List.mem_of_getElem? (i := 491) (by decide +kernel), List.mem_of_getElem? (i := 492) (by decide +kernel)⟩
theorem lw_p13 : lw_okq (⟨"BargesByBreath$Fleet", "breathe", "()Z"⟩, 20) := ⟨⟨by decide +kernel, by decide +kernel⟩, List.mem_of_getElem? (i := 74) (by decide +kernel), List.mem_of_getElem? (i := 495) (by decide +kernel), List.mem_of_getElem? (i := 496) (by decide +kernel)⟩
theorem lw_p14 : lw_okq (⟨"BargesByBreath", "entered", "(I)I"⟩, 9) := ⟨⟨by decide +kernel, by decide +kernel⟩, List.mem_of_getElem? (i := 20) (by decide +kernel), List.mem_of_getElem? (i := 565) (by decide +kernel), List.mem_of_getElem? (i := 566) (by decide +kernel)⟩
theorem lw_p15 : lw_okq (⟨"BargesByBreath", "doAct", "()I"⟩, 9) := ⟨⟨by decide +kernel, by decide +kernel⟩, List.mem_of_getElem? (i := 20) (by decide +kernel), List.mem_of_getElem? (i := 611) (by decide +kernel), List.mem_of_getElem? (i := 612) (by decide +kernel)⟩
def lw_privs_1 : List (MethodName × Nat) := [(⟨"BargesByBreath", "answerOfReading", "(ZI)I"⟩, 9), (⟨"BargesByBreath$Fleet", "draftBarge", "(LBargesByBreath$Script;I)Z"⟩, 20), (⟨"BargesByBreath$Fleet", "bargeOn", "(II)I"⟩, 20), (⟨"BargesByBreath$Fleet", "draftPassenger", "(LBargesByBreath$Script;I)Z"⟩, 20), (⟨"BargesByBreath$Rule", "comparison", "(I)Z"⟩, 6), (⟨"BargesByBreath$Rule", "sum", "(I)Z"⟩, 6), (⟨"BargesByBreath$Rule", "product", "(I)Z"⟩, 6), (⟨"BargesByBreath$Rule", "thing", "(I)Z"⟩, 6), (⟨"BargesByBreath$Rule", "emit", "(I)Z"⟩, 6), (⟨"BargesByBreath$Rule", "number", "()Z"⟩, 6), (⟨"BargesByBreath$Fleet", "passOne", "()Z"⟩, 20), (⟨"BargesByBreath$Fleet", "go", "(I)V"⟩, 20), (⟨"BargesByBreath$Fleet", "blowBack", "(II)Z"⟩, 20), (⟨"BargesByBreath$Fleet", "breathe", "()Z"⟩, 20), (⟨"BargesByBreath", "entered", "(I)I"⟩, 9), (⟨"BargesByBreath", "doAct", "()I"⟩, 9)]
theorem lw_r1 : ∀ q ∈ lw_privs_1, lw_okq q := List.forall_mem_cons.mpr ⟨lw_p0, List.forall_mem_cons.mpr ⟨lw_p1, List.forall_mem_cons.mpr ⟨lw_p2, List.forall_mem_cons.mpr ⟨lw_p3, List.forall_mem_cons.mpr ⟨lw_p4, List.forall_mem_cons.mpr ⟨lw_p5, List.forall_mem_cons.mpr ⟨lw_p6, List.forall_mem_cons.mpr ⟨lw_p7, List.forall_mem_cons.mpr ⟨lw_p8, List.forall_mem_cons.mpr ⟨lw_p9, List.forall_mem_cons.mpr ⟨lw_p10, List.forall_mem_cons.mpr ⟨lw_p11, List.forall_mem_cons.mpr ⟨lw_p12, List.forall_mem_cons.mpr ⟨lw_p13, List.forall_mem_cons.mpr ⟨lw_p14, List.forall_mem_cons.mpr ⟨lw_p15, fun _ h => absurd h List.not_mem_nil⟩⟩⟩⟩⟩⟩⟩⟩⟩⟩⟩⟩⟩⟩⟩⟩
theorem lw_p16 : lw_okq (⟨"BargesByBreath", "ahead", "(I)LBargesByBreath$Fleet;"⟩, 9) := ⟨⟨by decide +kernel, by decide +kernel⟩, List.mem_of_getElem? (i := 20) (by decide +kernel), List.mem_of_getElem? (i := 634) (by decide +kernel), List.mem_of_getElem? (i := 635) (by decide +kernel)⟩
theorem lw_p17 : lw_okq (⟨"BargesByBreath", "tryWith", "(II)V"⟩, 9) := ⟨⟨by decide +kernel, by decide +kernel⟩, List.mem_of_getElem? (i := 20) (by decide +kernel), List.mem_of_getElem? (i := 697) (by decide +kernel), List.mem_of_getElem? (i := 698) (by decide +kernel)⟩
theorem lw_p18 : lw_okq (⟨"BargesByBreath", "bestWithOne", "(I)I"⟩, 9) := ⟨⟨by decide +kernel, by decide +kernel⟩, List.mem_of_getElem? (i := 20) (by decide +kernel), List.mem_of_getElem? (i := 721) (by decide +kernel), List.mem_of_getElem? (i := 722) (by decide +kernel)⟩
theorem lw_p19 : lw_okq (⟨"BargesByBreath", "bestWithTwo", "(IIII)I"⟩, 9) := ⟨⟨by decide +kernel, by decide +kernel⟩, List.mem_of_getElem? (i := 20) (by decide +kernel), List.mem_of_getElem? (i := 729) (by decide +kernel), List.mem_of_getElem? (i := 730) (by decide +kernel)⟩
theorem lw_p20 : lw_okq (⟨"BargesByBreath$Gossip", "fitsAll", "(LBargesByBreath$Fleet;I)Z"⟩, 3) := ⟨⟨by decide +kernel, by decide +kernel⟩, List.mem_of_getElem? (i := 213) (by decide +kernel), List.mem_of_getElem? (i := 781) (by decide +kernel), List.mem_of_getElem? (i := 782) (by decide +kernel)⟩
theorem lw_p21 : lw_okq (⟨"java/lang/Throwable", "fillInStackTrace", "(I)Ljava/lang/Throwable;"⟩, 6) := ⟨⟨by decide +kernel, by decide +kernel⟩, List.mem_of_getElem? (i := 918) (by decide +kernel), List.mem_of_getElem? (i := 916) (by decide +kernel), List.mem_of_getElem? (i := 917) (by decide +kernel)⟩
theorem lw_p22 : lw_okq (⟨"BargesByBreathModel", "beginText", "(I)V"⟩, 43) := ⟨⟨by decide +kernel, by decide +kernel⟩, List.mem_of_getElem? (i := 966) (by decide +kernel), List.mem_of_getElem? (i := 1121) (by decide +kernel), List.mem_of_getElem? (i := 1122) (by decide +kernel)⟩
theorem lw_p23 : lw_okq (⟨"BargesByBreathModel", "begin", "([BII)V"⟩, 43) := ⟨⟨by decide +kernel, by decide +kernel⟩, List.mem_of_getElem? (i := 966) (by decide +kernel), List.mem_of_getElem? (i := 1125) (by decide +kernel), List.mem_of_getElem? (i := 1126) (by decide +kernel)⟩
theorem lw_p24 : lw_okq (⟨"BargesByBreathModel", "fine", "()Z"⟩, 43) := ⟨⟨by decide +kernel, by decide +kernel⟩, List.mem_of_getElem? (i := 966) (by decide +kernel), List.mem_of_getElem? (i := 1129) (by decide +kernel), List.mem_of_getElem? (i := 1130) (by decide +kernel)⟩
theorem lw_p25 : lw_okq (⟨"BargesByBreathModel", "here", "()I"⟩, 43) := ⟨⟨by decide +kernel, by decide +kernel⟩, List.mem_of_getElem? (i := 966) (by decide +kernel), List.mem_of_getElem? (i := 1133) (by decide +kernel), List.mem_of_getElem? (i := 1134) (by decide +kernel)⟩
theorem lw_p26 : lw_okq (⟨"BargesByBreathModel", "fault", "(I)V"⟩, 43) := ⟨⟨by decide +kernel, by decide +kernel⟩, List.mem_of_getElem? (i := 966) (by decide +kernel), List.mem_of_getElem? (i := 1137) (by decide +kernel), List.mem_of_getElem? (i := 1138) (by decide +kernel)⟩
theorem lw_p27 : lw_okq (⟨"BargesByBreathModel", "wasRight", "()Z"⟩, 43) := ⟨⟨by decide +kernel, by decide +kernel⟩, List.mem_of_getElem? (i := 966) (by decide +kernel), List.mem_of_getElem? (i := 1141) (by decide +kernel), List.mem_of_getElem? (i := 1142) (by decide +kernel)⟩
theorem lw_p28 : lw_okq (⟨"BargesByBreathModel", "told", "()V"⟩, 43) := ⟨⟨by decide +kernel, by decide +kernel⟩, List.mem_of_getElem? (i := 966) (by decide +kernel), List.mem_of_getElem? (i := 1145) (by decide +kernel), List.mem_of_getElem? (i := 1146) (by decide +kernel)⟩
theorem lw_p29 : lw_okq (⟨"BargesByBreathModel", "readBarge", "(I)V"⟩, 43) := ⟨⟨by decide +kernel, by decide +kernel⟩, List.mem_of_getElem? (i := 966) (by decide +kernel), List.mem_of_getElem? (i := 1153) (by decide +kernel), List.mem_of_getElem? (i := 1154) (by decide +kernel)⟩
theorem lw_p30 : lw_okq (⟨"BargesByBreathModel", "oneOf", "(CI)I"⟩, 43) := ⟨⟨by decide +kernel, by decide +kernel⟩, List.mem_of_getElem? (i := 966) (by decide +kernel), List.mem_of_getElem? (i := 1157) (by decide +kernel), List.mem_of_getElem? (i := 1158) (by decide +kernel)⟩
theorem lw_p31 : lw_okq (⟨"BargesByBreathModel", "isLock", "(I)Z"⟩, 43) := ⟨⟨by decide +kernel, by decide +kernel⟩, List.mem_of_getElem? (i := 966) (by decide +kernel), List.mem_of_getElem? (i := 1161) (by decide +kernel), List.mem_of_getElem? (i := 1162) (by decide +kernel)⟩
def lw_privs_2 : List (MethodName × Nat) := [(⟨"BargesByBreath", "ahead", "(I)LBargesByBreath$Fleet;"⟩, 9), (⟨"BargesByBreath", "tryWith", "(II)V"⟩, 9), (⟨"BargesByBreath", "bestWithOne", "(I)I"⟩, 9), (⟨"BargesByBreath", "bestWithTwo", "(IIII)I"⟩, 9), (⟨"BargesByBreath$Gossip", "fitsAll", "(LBargesByBreath$Fleet;I)Z"⟩, 3), (⟨"java/lang/Throwable", "fillInStackTrace", "(I)Ljava/lang/Throwable;"⟩, 6), (⟨"BargesByBreathModel", "beginText", "(I)V"⟩, 43), (⟨"BargesByBreathModel", "begin", "([BII)V"⟩, 43), (⟨"BargesByBreathModel", "fine", "()Z"⟩, 43), (⟨"BargesByBreathModel", "here", "()I"⟩, 43), (⟨"BargesByBreathModel", "fault", "(I)V"⟩, 43), (⟨"BargesByBreathModel", "wasRight", "()Z"⟩, 43), (⟨"BargesByBreathModel", "told", "()V"⟩, 43), (⟨"BargesByBreathModel", "readBarge", "(I)V"⟩, 43), (⟨"BargesByBreathModel", "oneOf", "(CI)I"⟩, 43), (⟨"BargesByBreathModel", "isLock", "(I)Z"⟩, 43)]
theorem lw_r2 : ∀ q ∈ lw_privs_2, lw_okq q := List.forall_mem_cons.mpr ⟨lw_p16, List.forall_mem_cons.mpr ⟨lw_p17, List.forall_mem_cons.mpr ⟨lw_p18, List.forall_mem_cons.mpr ⟨lw_p19, List.forall_mem_cons.mpr ⟨lw_p20, List.forall_mem_cons.mpr ⟨lw_p21, List.forall_mem_cons.mpr ⟨lw_p22, List.forall_mem_cons.mpr ⟨lw_p23, List.forall_mem_cons.mpr ⟨lw_p24, List.forall_mem_cons.mpr ⟨lw_p25, List.forall_mem_cons.mpr ⟨lw_p26, List.forall_mem_cons.mpr ⟨lw_p27, List.forall_mem_cons.mpr ⟨lw_p28, List.forall_mem_cons.mpr ⟨lw_p29, List.forall_mem_cons.mpr ⟨lw_p30, List.forall_mem_cons.mpr ⟨lw_p31, fun _ h => absurd h List.not_mem_nil⟩⟩⟩⟩⟩⟩⟩⟩⟩⟩⟩⟩⟩⟩⟩⟩
theorem lw_p32 : lw_okq (⟨"BargesByBreathModel", "on", "([II)I"⟩, 43) := ⟨⟨by decide +kernel, by decide +kernel⟩, List.mem_of_getElem? (i := 966) (by decide +kernel), List.mem_of_getElem? (i := 1165) (by decide +kernel), List.mem_of_getElem? (i := 1166) (by decide +kernel)⟩
theorem lw_p33 : lw_okq (⟨"BargesByBreathModel", "passes", "(C)Z"⟩, 43) := ⟨⟨by decide +kernel, by decide +kernel⟩, List.mem_of_getElem? (i := 966) (by decide +kernel), List.mem_of_getElem? (i := 1169) (by decide +kernel), List.mem_of_getElem? (i := 1170) (by decide +kernel)⟩
theorem lw_p34 : lw_okq (⟨"BargesByBreathModel", "readMan", "(I)V"⟩, 43) := ⟨⟨by decide +kernel, by decide +kernel⟩, List.mem_of_getElem? (i := 966) (by decide +kernel), List.mem_of_getElem? (i := 1177) (by decide +kernel), List.mem_of_getElem? (i := 1178) (by decide +kernel)⟩
theorem lw_p35 : lw_okq (⟨"BargesByBreathModel", "readRule", "()Z"⟩, 43) := ⟨⟨by decide +kernel, by decide +kernel⟩, List.mem_of_getElem? (i := 966) (by decide +kernel), List.mem_of_getElem? (i := 1185) (by decide +kernel), List.mem_of_getElem? (i := 1186) (by decide +kernel)⟩
theorem lw_p36 : lw_okq (⟨"BargesByBreathModel", "held", "(I)I"⟩, 43) := ⟨⟨by decide +kernel, by decide +kernel⟩, List.mem_of_getElem? (i := 966) (by decide +kernel), List.mem_of_getElem? (i := 1189) (by decide +kernel), List.mem_of_getElem? (i := 1190) (by decide +kernel)⟩
theorem lw_p37 : lw_okq (⟨"BargesByBreathModel", "sum", "(I)I"⟩, 43) := ⟨⟨by decide +kernel, by decide +kernel⟩, List.mem_of_getElem? (i := 966) (by decide +kernel), List.mem_of_getElem? (i := 1193) (by decide +kernel), List.mem_of_getElem? (i := 1194) (by decide +kernel)⟩
theorem lw_p38 : lw_okq (⟨"BargesByBreathModel", "product", "(I)I"⟩, 43) := ⟨⟨by decide +kernel, by decide +kernel⟩, List.mem_of_getElem? (i := 966) (by decide +kernel), List.mem_of_getElem? (i := 1197) (by decide +kernel), List.mem_of_getElem? (i := 1198) (by decide +kernel)⟩
theorem lw_p39 : lw_okq (⟨"BargesByBreathModel", "thing", "(I)I"⟩, 43) := ⟨⟨by decide +kernel, by decide +kernel⟩, List.mem_of_getElem? (i := 966) (by decide +kernel), List.mem_of_getElem? (i := 1201) (by decide +kernel), List.mem_of_getElem? (i := 1202) (by decide +kernel)⟩
theorem lw_p40 : lw_okq (⟨"BargesByBreathModel", "need", "(C)V"⟩, 43) := ⟨⟨by decide +kernel, by decide +kernel⟩, List.mem_of_getElem? (i := 966) (by decide +kernel), List.mem_of_getElem? (i := 1205) (by decide +kernel), List.mem_of_getElem? (i := 1206) (by decide +kernel)⟩
theorem lw_p41 : lw_okq (⟨"BargesByBreathModel", "number", "(I)I"⟩, 43) := ⟨⟨by decide +kernel, by decide +kernel⟩, List.mem_of_getElem? (i := 966) (by decide +kernel), List.mem_of_getElem? (i := 1209) (by decide +kernel), List.mem_of_getElem? (i := 1210) (by decide +kernel)⟩
theorem lw_p42 : lw_okq (⟨"BargesByBreathModel", "isBarge", "(I)Z"⟩, 43) := ⟨⟨by decide +kernel, by decide +kernel⟩, List.mem_of_getElem? (i := 966) (by decide +kernel), List.mem_of_getElem? (i := 1220) (by decide +kernel), List.mem_of_getElem? (i := 1221) (by decide +kernel)⟩
theorem lw_p43 : lw_okq (⟨"BargesByBreathModel", "lost", "()I"⟩, 43) := ⟨⟨by decide +kernel, by decide +kernel⟩, List.mem_of_getElem? (i := 966) (by decide +kernel), List.mem_of_getElem? (i := 1224) (by decide +kernel), List.mem_of_getElem? (i := 1225) (by decide +kernel)⟩
theorem lw_p44 : lw_okq (⟨"BargesByBreathModel", "windOf", "([II)I"⟩, 43) := ⟨⟨by decide +kernel, by decide +kernel⟩, List.mem_of_getElem? (i := 966) (by decide +kernel), List.mem_of_getElem? (i := 1228) (by decide +kernel), List.mem_of_getElem? (i := 1229) (by decide +kernel)⟩
theorem lw_p45 : lw_okq (⟨"BargesByBreathModel", "puffOf", "([II)I"⟩, 43) := ⟨⟨by decide +kernel, by decide +kernel⟩, List.mem_of_getElem? (i := 966) (by decide +kernel), List.mem_of_getElem? (i := 1232) (by decide +kernel), List.mem_of_getElem? (i := 1233) (by decide +kernel)⟩
theorem lw_p46 : lw_okq (⟨"BargesByBreathModel", "aboard", "([II)I"⟩, 43) := ⟨⟨by decide +kernel, by decide +kernel⟩, List.mem_of_getElem? (i := 966) (by decide +kernel), List.mem_of_getElem? (i := 1236) (by decide +kernel), List.mem_of_getElem? (i := 1237) (by decide +kernel)⟩
theorem lw_p47 : lw_okq (⟨"BargesByBreathModel", "holdOf", "([II)I"⟩, 43) := ⟨⟨by decide +kernel, by decide +kernel⟩, List.mem_of_getElem? (i := 966) (by decide +kernel), List.mem_of_getElem? (i := 1246) (by decide +kernel), List.mem_of_getElem? (i := 1247) (by decide +kernel)⟩
def lw_privs_3 : List (MethodName × Nat) := [(⟨"BargesByBreathModel", "on", "([II)I"⟩, 43), (⟨"BargesByBreathModel", "passes", "(C)Z"⟩, 43), (⟨"BargesByBreathModel", "readMan", "(I)V"⟩, 43), (⟨"BargesByBreathModel", "readRule", "()Z"⟩, 43), (⟨"BargesByBreathModel", "held", "(I)I"⟩, 43), (⟨"BargesByBreathModel", "sum", "(I)I"⟩, 43), (⟨"BargesByBreathModel", "product", "(I)I"⟩, 43), (⟨"BargesByBreathModel", "thing", "(I)I"⟩, 43), (⟨"BargesByBreathModel", "need", "(C)V"⟩, 43), (⟨"BargesByBreathModel", "number", "(I)I"⟩, 43), (⟨"BargesByBreathModel", "isBarge", "(I)Z"⟩, 43), (⟨"BargesByBreathModel", "lost", "()I"⟩, 43), (⟨"BargesByBreathModel", "windOf", "([II)I"⟩, 43), (⟨"BargesByBreathModel", "puffOf", "([II)I"⟩, 43), (⟨"BargesByBreathModel", "aboard", "([II)I"⟩, 43), (⟨"BargesByBreathModel", "holdOf", "([II)I"⟩, 43)]
theorem lw_r3 : ∀ q ∈ lw_privs_3, lw_okq q := List.forall_mem_cons.mpr ⟨lw_p32, List.forall_mem_cons.mpr ⟨lw_p33, List.forall_mem_cons.mpr ⟨lw_p34, List.forall_mem_cons.mpr ⟨lw_p35, List.forall_mem_cons.mpr ⟨lw_p36, List.forall_mem_cons.mpr ⟨lw_p37, List.forall_mem_cons.mpr ⟨lw_p38, List.forall_mem_cons.mpr ⟨lw_p39, List.forall_mem_cons.mpr ⟨lw_p40, List.forall_mem_cons.mpr ⟨lw_p41, List.forall_mem_cons.mpr ⟨lw_p42, List.forall_mem_cons.mpr ⟨lw_p43, List.forall_mem_cons.mpr ⟨lw_p44, List.forall_mem_cons.mpr ⟨lw_p45, List.forall_mem_cons.mpr ⟨lw_p46, List.forall_mem_cons.mpr ⟨lw_p47, fun _ h => absurd h List.not_mem_nil⟩⟩⟩⟩⟩⟩⟩⟩⟩⟩⟩⟩⟩⟩⟩⟩
theorem lw_p48 : lw_okq (⟨"BargesByBreathModel", "isMan", "(I)Z"⟩, 43) := ⟨⟨by decide +kernel, by decide +kernel⟩, List.mem_of_getElem? (i := 966) (by decide +kernel), List.mem_of_getElem? (i := 1254) (by decide +kernel), List.mem_of_getElem? (i := 1255) (by decide +kernel)⟩
theorem lw_p49 : lw_okq (⟨"BargesByBreathModel", "breathOf", "([I)I"⟩, 43) := ⟨⟨by decide +kernel, by decide +kernel⟩, List.mem_of_getElem? (i := 966) (by decide +kernel), List.mem_of_getElem? (i := 1262) (by decide +kernel), List.mem_of_getElem? (i := 1263) (by decide +kernel)⟩
theorem lw_p50 : lw_okq (⟨"BargesByBreathModel", "remember", "([I)V"⟩, 43) := ⟨⟨by decide +kernel, by decide +kernel⟩, List.mem_of_getElem? (i := 966) (by decide +kernel), List.mem_of_getElem? (i := 1270) (by decide +kernel), List.mem_of_getElem? (i := 1271) (by decide +kernel)⟩
theorem lw_p51 : lw_okq (⟨"BargesByBreathModel", "goHours", "([II)V"⟩, 43) := ⟨⟨by decide +kernel, by decide +kernel⟩, List.mem_of_getElem? (i := 966) (by decide +kernel), List.mem_of_getElem? (i := 1277) (by decide +kernel), List.mem_of_getElem? (i := 1278) (by decide +kernel)⟩
theorem lw_p52 : lw_okq (⟨"BargesByBreathModel", "goHour", "([I)V"⟩, 43) := ⟨⟨by decide +kernel, by decide +kernel⟩, List.mem_of_getElem? (i := 966) (by decide +kernel), List.mem_of_getElem? (i := 1281) (by decide +kernel), List.mem_of_getElem? (i := 1282) (by decide +kernel)⟩
theorem lw_p53 : lw_okq (⟨"BargesByBreathModel", "goCell", "([II)Z"⟩, 43) := ⟨⟨by decide +kernel, by decide +kernel⟩, List.mem_of_getElem? (i := 966) (by decide +kernel), List.mem_of_getElem? (i := 1285) (by decide +kernel), List.mem_of_getElem? (i := 1286) (by decide +kernel)⟩
theorem lw_p54 : lw_okq (⟨"BargesByBreathModel", "isAtEnd", "([II)Z"⟩, 43) := ⟨⟨by decide +kernel, by decide +kernel⟩, List.mem_of_getElem? (i := 966) (by decide +kernel), List.mem_of_getElem? (i := 1289) (by decide +kernel), List.mem_of_getElem? (i := 1290) (by decide +kernel)⟩
theorem lw_p55 : lw_okq (⟨"BargesByBreathModel", "isCell", "(I)Z"⟩, 43) := ⟨⟨by decide +kernel, by decide +kernel⟩, List.mem_of_getElem? (i := 966) (by decide +kernel), List.mem_of_getElem? (i := 1293) (by decide +kernel), List.mem_of_getElem? (i := 1294) (by decide +kernel)⟩
theorem lw_p56 : lw_okq (⟨"BargesByBreathModel", "tell", "(J)V"⟩, 43) := ⟨⟨by decide +kernel, by decide +kernel⟩, List.mem_of_getElem? (i := 966) (by decide +kernel), List.mem_of_getElem? (i := 1297) (by decide +kernel), List.mem_of_getElem? (i := 1298) (by decide +kernel)⟩
theorem lw_p57 : lw_okq (⟨"BargesByBreathModel", "thereMany", "([I)I"⟩, 43) := ⟨⟨by decide +kernel, by decide +kernel⟩, List.mem_of_getElem? (i := 966) (by decide +kernel), List.mem_of_getElem? (i := 1301) (by decide +kernel), List.mem_of_getElem? (i := 1302) (by decide +kernel)⟩
theorem lw_p58 : lw_okq (⟨"BargesByBreathModel", "there", "([I)I"⟩, 43) := ⟨⟨by decide +kernel, by decide +kernel⟩, List.mem_of_getElem? (i := 966) (by decide +kernel), List.mem_of_getElem? (i := 1305) (by decide +kernel), List.mem_of_getElem? (i := 1306) (by decide +kernel)⟩
theorem lw_p59 : lw_okq (⟨"BargesByBreathModel", "refusesChange", "([III)I"⟩, 43) := ⟨⟨by decide +kernel, by decide +kernel⟩, List.mem_of_getElem? (i := 966) (by decide +kernel), List.mem_of_getElem? (i := 1313) (by decide +kernel), List.mem_of_getElem? (i := 1314) (by decide +kernel)⟩
theorem lw_p60 : lw_okq (⟨"BargesByBreathModel", "awake", "([I)I"⟩, 43) := ⟨⟨by decide +kernel, by decide +kernel⟩, List.mem_of_getElem? (i := 966) (by decide +kernel), List.mem_of_getElem? (i := 1322) (by decide +kernel), List.mem_of_getElem? (i := 1323) (by decide +kernel)⟩
theorem lw_p61 : lw_okq (⟨"BargesByBreathModel", "refusesLoad", "(II)I"⟩, 43) := ⟨⟨by decide +kernel, by decide +kernel⟩, List.mem_of_getElem? (i := 966) (by decide +kernel), List.mem_of_getElem? (i := 1330) (by decide +kernel), List.mem_of_getElem? (i := 1331) (by decide +kernel)⟩
theorem lw_p62 : lw_okq (⟨"BargesByBreathModel", "goRound", "(I)V"⟩, 43) := ⟨⟨by decide +kernel, by decide +kernel⟩, List.mem_of_getElem? (i := 966) (by decide +kernel), List.mem_of_getElem? (i := 1338) (by decide +kernel), List.mem_of_getElem? (i := 1339) (by decide +kernel)⟩
theorem lw_p63 : lw_okq (⟨"BargesByBreathModel", "readAct", "(I)V"⟩, 43) := ⟨⟨by decide +kernel, by decide +kernel⟩, List.mem_of_getElem? (i := 966) (by decide +kernel), List.mem_of_getElem? (i := 1346) (by decide +kernel), List.mem_of_getElem? (i := 1347) (by decide +kernel)⟩
def lw_privs_4 : List (MethodName × Nat) := [(⟨"BargesByBreathModel", "isMan", "(I)Z"⟩, 43), (⟨"BargesByBreathModel", "breathOf", "([I)I"⟩, 43), (⟨"BargesByBreathModel", "remember", "([I)V"⟩, 43), (⟨"BargesByBreathModel", "goHours", "([II)V"⟩, 43), (⟨"BargesByBreathModel", "goHour", "([I)V"⟩, 43), (⟨"BargesByBreathModel", "goCell", "([II)Z"⟩, 43), (⟨"BargesByBreathModel", "isAtEnd", "([II)Z"⟩, 43), (⟨"BargesByBreathModel", "isCell", "(I)Z"⟩, 43), (⟨"BargesByBreathModel", "tell", "(J)V"⟩, 43), (⟨"BargesByBreathModel", "thereMany", "([I)I"⟩, 43), (⟨"BargesByBreathModel", "there", "([I)I"⟩, 43), (⟨"BargesByBreathModel", "refusesChange", "([III)I"⟩, 43), (⟨"BargesByBreathModel", "awake", "([I)I"⟩, 43), (⟨"BargesByBreathModel", "refusesLoad", "(II)I"⟩, 43), (⟨"BargesByBreathModel", "goRound", "(I)V"⟩, 43), (⟨"BargesByBreathModel", "readAct", "(I)V"⟩, 43)]
theorem lw_r4 : ∀ q ∈ lw_privs_4, lw_okq q := List.forall_mem_cons.mpr ⟨lw_p48, List.forall_mem_cons.mpr ⟨lw_p49, List.forall_mem_cons.mpr ⟨lw_p50, List.forall_mem_cons.mpr ⟨lw_p51, List.forall_mem_cons.mpr ⟨lw_p52, List.forall_mem_cons.mpr ⟨lw_p53, List.forall_mem_cons.mpr ⟨lw_p54, List.forall_mem_cons.mpr ⟨lw_p55, List.forall_mem_cons.mpr ⟨lw_p56, List.forall_mem_cons.mpr ⟨lw_p57, List.forall_mem_cons.mpr ⟨lw_p58, List.forall_mem_cons.mpr ⟨lw_p59, List.forall_mem_cons.mpr ⟨lw_p60, List.forall_mem_cons.mpr ⟨lw_p61, List.forall_mem_cons.mpr ⟨lw_p62, List.forall_mem_cons.mpr ⟨lw_p63, fun _ h => absurd h List.not_mem_nil⟩⟩⟩⟩⟩⟩⟩⟩⟩⟩⟩⟩⟩⟩⟩⟩
theorem lw_p64 : lw_okq (⟨"BargesByBreathModel", "act", "(III)Z"⟩, 43) := ⟨⟨by decide +kernel, by decide +kernel⟩, List.mem_of_getElem? (i := 966) (by decide +kernel), List.mem_of_getElem? (i := 1350) (by decide +kernel), List.mem_of_getElem? (i := 1351) (by decide +kernel)⟩
theorem lw_p65 : lw_okq (⟨"BargesByBreathModel", "goThen", "(I)V"⟩, 43) := ⟨⟨by decide +kernel, by decide +kernel⟩, List.mem_of_getElem? (i := 966) (by decide +kernel), List.mem_of_getElem? (i := 1362) (by decide +kernel), List.mem_of_getElem? (i := 1363) (by decide +kernel)⟩
theorem lw_p66 : lw_okq (⟨"BargesByBreathModel", "arrivesThen", "(I)I"⟩, 43) := ⟨⟨by decide +kernel, by decide +kernel⟩, List.mem_of_getElem? (i := 966) (by decide +kernel), List.mem_of_getElem? (i := 1370) (by decide +kernel), List.mem_of_getElem? (i := 1371) (by decide +kernel)⟩
theorem lw_p67 : lw_okq (⟨"BargesByBreathModel", "areTwo", "(II)Z"⟩, 43) := ⟨⟨by decide +kernel, by decide +kernel⟩, List.mem_of_getElem? (i := 966) (by decide +kernel), List.mem_of_getElem? (i := 1391) (by decide +kernel), List.mem_of_getElem? (i := 1392) (by decide +kernel)⟩
theorem lw_p68 : lw_okq (⟨"BargesByBreathModel", "breathOfSet", "(I)I"⟩, 43) := ⟨⟨by decide +kernel, by decide +kernel⟩, List.mem_of_getElem? (i := 966) (by decide +kernel), List.mem_of_getElem? (i := 1422) (by decide +kernel), List.mem_of_getElem? (i := 1423) (by decide +kernel)⟩
theorem lw_p69 : lw_okq (⟨"BargesByBreathModel", "one", "(I)I"⟩, 43) := ⟨⟨by decide +kernel, by decide +kernel⟩, List.mem_of_getElem? (i := 966) (by decide +kernel), List.mem_of_getElem? (i := 1433) (by decide +kernel), List.mem_of_getElem? (i := 1434) (by decide +kernel)⟩
theorem lw_p70 : lw_okq (⟨"BargesByBreathModel", "thereBy", "(IIIII)I"⟩, 43) := ⟨⟨by decide +kernel, by decide +kernel⟩, List.mem_of_getElem? (i := 966) (by decide +kernel), List.mem_of_getElem? (i := 1437) (by decide +kernel), List.mem_of_getElem? (i := 1438) (by decide +kernel)⟩
theorem lw_p71 : lw_okq (⟨"BargesByBreathModel", "tellBest", "()V"⟩, 43) := ⟨⟨by decide +kernel, by decide +kernel⟩, List.mem_of_getElem? (i := 966) (by decide +kernel), List.mem_of_getElem? (i := 1441) (by decide +kernel), List.mem_of_getElem? (i := 1442) (by decide +kernel)⟩
theorem lw_p72 : lw_okq (⟨"BargesByBreathModel", "cellOf", "(I)I"⟩, 43) := ⟨⟨by decide +kernel, by decide +kernel⟩, List.mem_of_getElem? (i := 966) (by decide +kernel), List.mem_of_getElem? (i := 1465) (by decide +kernel), List.mem_of_getElem? (i := 1466) (by decide +kernel)⟩
theorem lw_p73 : lw_okq (⟨"BargesByBreathModel", "fitting", "()I"⟩, 43) := ⟨⟨by decide +kernel, by decide +kernel⟩, List.mem_of_getElem? (i := 966) (by decide +kernel), List.mem_of_getElem? (i := 1481) (by decide +kernel), List.mem_of_getElem? (i := 1482) (by decide +kernel)⟩
theorem lw_p74 : lw_okq (⟨"BargesByBreathModel", "fits", "(III)Z"⟩, 43) := ⟨⟨by decide +kernel, by decide +kernel⟩, List.mem_of_getElem? (i := 966) (by decide +kernel), List.mem_of_getElem? (i := 1485) (by decide +kernel), List.mem_of_getElem? (i := 1486) (by decide +kernel)⟩
theorem lw_p75 : lw_okq (⟨"BargesByBreathModel", "isLost", "(II)Z"⟩, 43) := ⟨⟨by decide +kernel, by decide +kernel⟩, List.mem_of_getElem? (i := 966) (by decide +kernel), List.mem_of_getElem? (i := 1497) (by decide +kernel), List.mem_of_getElem? (i := 1498) (by decide +kernel)⟩
theorem lw_p76 : lw_okq (⟨"BargesByBreathModel", "thereIn20", "()I"⟩, 43) := ⟨⟨by decide +kernel, by decide +kernel⟩, List.mem_of_getElem? (i := 966) (by decide +kernel), List.mem_of_getElem? (i := 1526) (by decide +kernel), List.mem_of_getElem? (i := 1527) (by decide +kernel)⟩
theorem lw_p77 : lw_okq (⟨"BargesByBreathModel", "draw", "(I)I"⟩, 43) := ⟨⟨by decide +kernel, by decide +kernel⟩, List.mem_of_getElem? (i := 966) (by decide +kernel), List.mem_of_getElem? (i := 1534) (by decide +kernel), List.mem_of_getElem? (i := 1535) (by decide +kernel)⟩
theorem lw_p78 : lw_okq (⟨"BargesByBreathModel", "cargo", "()I"⟩, 43) := ⟨⟨by decide +kernel, by decide +kernel⟩, List.mem_of_getElem? (i := 966) (by decide +kernel), List.mem_of_getElem? (i := 1551) (by decide +kernel), List.mem_of_getElem? (i := 1552) (by decide +kernel)⟩
def lw_privs_5 : List (MethodName × Nat) := [(⟨"BargesByBreathModel", "act", "(III)Z"⟩, 43), (⟨"BargesByBreathModel", "goThen", "(I)V"⟩, 43), (⟨"BargesByBreathModel", "arrivesThen", "(I)I"⟩, 43), (⟨"BargesByBreathModel", "areTwo", "(II)Z"⟩, 43), (⟨"BargesByBreathModel", "breathOfSet", "(I)I"⟩, 43), (⟨"BargesByBreathModel", "one", "(I)I"⟩, 43), (⟨"BargesByBreathModel", "thereBy", "(IIIII)I"⟩, 43), (⟨"BargesByBreathModel", "tellBest", "()V"⟩, 43), (⟨"BargesByBreathModel", "cellOf", "(I)I"⟩, 43), (⟨"BargesByBreathModel", "fitting", "()I"⟩, 43), (⟨"BargesByBreathModel", "fits", "(III)Z"⟩, 43), (⟨"BargesByBreathModel", "isLost", "(II)Z"⟩, 43), (⟨"BargesByBreathModel", "thereIn20", "()I"⟩, 43), (⟨"BargesByBreathModel", "draw", "(I)I"⟩, 43), (⟨"BargesByBreathModel", "cargo", "()I"⟩, 43)]
theorem lw_r5 : ∀ q ∈ lw_privs_5, lw_okq q := List.forall_mem_cons.mpr ⟨lw_p64, List.forall_mem_cons.mpr ⟨lw_p65, List.forall_mem_cons.mpr ⟨lw_p66, List.forall_mem_cons.mpr ⟨lw_p67, List.forall_mem_cons.mpr ⟨lw_p68, List.forall_mem_cons.mpr ⟨lw_p69, List.forall_mem_cons.mpr ⟨lw_p70, List.forall_mem_cons.mpr ⟨lw_p71, List.forall_mem_cons.mpr ⟨lw_p72, List.forall_mem_cons.mpr ⟨lw_p73, List.forall_mem_cons.mpr ⟨lw_p74, List.forall_mem_cons.mpr ⟨lw_p75, List.forall_mem_cons.mpr ⟨lw_p76, List.forall_mem_cons.mpr ⟨lw_p77, List.forall_mem_cons.mpr ⟨lw_p78, fun _ h => absurd h List.not_mem_nil⟩⟩⟩⟩⟩⟩⟩⟩⟩⟩⟩⟩⟩⟩⟩
def lw_privs : List (MethodName × Nat) := lw_privs_1 ++ (lw_privs_2 ++ (lw_privs_3 ++ (lw_privs_4 ++ (lw_privs_5))))
def lw_tbl : List Cond := k2_sels lw_privs ++ tables_1
theorem lw_privs_ok : ∀ q ∈ lw_privs, lw_okq q := by
  show ∀ q ∈ lw_privs_1 ++ (lw_privs_2 ++ (lw_privs_3 ++ (lw_privs_4 ++ (lw_privs_5)))), lw_okq q
  exact List.forall_mem_append.mpr ⟨lw_r1, List.forall_mem_append.mpr ⟨lw_r2, List.forall_mem_append.mpr ⟨lw_r3, List.forall_mem_append.mpr ⟨lw_r4, lw_r5⟩⟩⟩⟩

-- ===== names (out of the printed names) =====
def RX0 : String := "BargesByBreath$Canal"
def TX0 : u_T := fun k => match k with
  | 0 => ("BargesByBreath$Canal", "kinds", "[C", true)
  | _ => ("BargesByBreath$Canal", "length", "I", false)
def tyX0 : Nat → FieldType := fun k => match k with
  | 0 => .array .char
  | _ => .int
theorem nmX0 : ∀ a, a < 2 → ∀ b, b < 2 → a ≠ b → (TX0 a).2.1 ≠ (TX0 b).2.1 := by decide +kernel
theorem tyX0_ok : ∀ k, k < 2 → parseFieldDescriptor (TX0 k).2.2.1 = some (tyX0 k) := by decide +kernel
def RX1 : String := "BargesByBreath$Draws"
def TX1 : u_T := fun k => match k with
  | _ => ("BargesByBreath$Draws", "\x72", "I", false)
def tyX1 : Nat → FieldType := fun k => match k with
  | _ => .int
theorem nmX1 : ∀ a, a < 1 → ∀ b, b < 1 → a ≠ b → (TX1 a).2.1 ≠ (TX1 b).2.1 := by decide +kernel
theorem tyX1_ok : ∀ k, k < 1 → parseFieldDescriptor (TX1 k).2.2.1 = some (tyX1 k) := by decide +kernel
def RX2 : String := "BargesByBreath$Fleet"
def TX2 : u_T := fun k => match k with
  | 0 => ("BargesByBreath$Fleet", "canal", "LBargesByBreath$Canal;", true)
  | 1 => ("BargesByBreath$Fleet", "rule", "LBargesByBreath$Rule;", false)
  | 2 => ("BargesByBreath$Fleet", "hour", "I", false)
  | 3 => ("BargesByBreath$Fleet", "went", "I", false)
  | 4 => ("BargesByBreath$Fleet", "blown", "I", false)
  | 5 => ("BargesByBreath$Fleet", "barges", "I", false)
  | 6 => ("BargesByBreath$Fleet", "cell", "[I", true)
  | 7 => ("BargesByBreath$Fleet", "heading", "[I", true)
  | 8 => ("BargesByBreath$Fleet", "cargo", "[I", true)
  | 9 => ("BargesByBreath$Fleet", "there", "[Z", true)
  | 10 => ("BargesByBreath$Fleet", "wind", "[I", true)
  | 11 => ("BargesByBreath$Fleet", "hold", "[I", true)
  | 12 => ("BargesByBreath$Fleet", "crew", "[I", true)
  | 13 => ("BargesByBreath$Fleet", "met", "[I", true)
  | 14 => ("BargesByBreath$Fleet", "passengers", "I", false)
  | 15 => ("BargesByBreath$Fleet", "lungs", "[I", true)
  | 16 => ("BargesByBreath$Fleet", "boat", "[I", true)
  | 17 => ("BargesByBreath$Fleet", "awake", "[Z", true)
  | 18 => ("BargesByBreath$Fleet", "air", "[I", true)
  | _ => ("BargesByBreath$Fleet", "puff", "[I", true)
def tyX2 : Nat → FieldType := fun k => match k with
  | 0 => .object "BargesByBreath$Canal"
  | 1 => .object "BargesByBreath$Rule"
  | 2 => .int
  | 3 => .int
  | 4 => .int
  | 5 => .int
  | 6 => .array .int
  | 7 => .array .int
  | 8 => .array .int
  | 9 => .array .boolean
  | 10 => .array .int
  | 11 => .array .int
  | 12 => .array .int
  | 13 => .array .int
  | 14 => .int
  | 15 => .array .int
  | 16 => .array .int
  | 17 => .array .boolean
  | 18 => .array .int
  | _ => .array .int
theorem nmX2 : ∀ a, a < 20 → ∀ b, b < 20 → a ≠ b → (TX2 a).2.1 ≠ (TX2 b).2.1 := by decide +kernel
theorem tyX2_ok : ∀ k, k < 20 → parseFieldDescriptor (TX2 k).2.2.1 = some (tyX2 k) := by decide +kernel
def RX3 : String := "BargesByBreath$Games"
def RX4 : String := "BargesByBreath$Gossip"
def TX4 : u_T := fun k => match k with
  | 0 => ("BargesByBreath$Gossip", "whats", "[I", true)
  | 1 => ("BargesByBreath$Gossip", "values", "[I", true)
  | _ => ("BargesByBreath$Gossip", "many", "I", false)
def tyX4 : Nat → FieldType := fun k => match k with
  | 0 => .array .int
  | 1 => .array .int
  | _ => .int
theorem nmX4 : ∀ a, a < 3 → ∀ b, b < 3 → a ≠ b → (TX4 a).2.1 ≠ (TX4 b).2.1 := by decide +kernel
theorem tyX4_ok : ∀ k, k < 3 → parseFieldDescriptor (TX4 k).2.2.1 = some (tyX4 k) := by decide +kernel
def RX5 : String := "BargesByBreath$Past"
def TX5 : u_T := fun k => match k with
  | 0 => ("BargesByBreath$Past", "store", "[I", true)
  | 1 => ("BargesByBreath$Past", "held", "[Z", true)
  | 2 => ("BargesByBreath$Past", "next", "I", false)
  | _ => ("BargesByBreath$Past", "many", "I", false)
def tyX5 : Nat → FieldType := fun k => match k with
  | 0 => .array .int
  | 1 => .array .boolean
  | 2 => .int
  | _ => .int
theorem nmX5 : ∀ a, a < 4 → ∀ b, b < 4 → a ≠ b → (TX5 a).2.1 ≠ (TX5 b).2.1 := by decide +kernel
theorem tyX5_ok : ∀ k, k < 4 → parseFieldDescriptor (TX5 k).2.2.1 = some (tyX5 k) := by decide +kernel
def RX6 : String := "BargesByBreath$Rule"
def TX6 : u_T := fun k => match k with
  | 0 => ("BargesByBreath$Rule", "script", "LBargesByBreath$Script;", true)
  | 1 => ("BargesByBreath$Rule", "steps", "[I", true)
  | 2 => ("BargesByBreath$Rule", "stack", "[I", true)
  | 3 => ("BargesByBreath$Rule", "things", "[I", true)
  | 4 => ("BargesByBreath$Rule", "many", "I", false)
  | _ => ("BargesByBreath$Rule", "hourly", "Z", false)
def tyX6 : Nat → FieldType := fun k => match k with
  | 0 => .object "BargesByBreath$Script"
  | 1 => .array .int
  | 2 => .array .int
  | 3 => .array .int
  | 4 => .int
  | _ => .boolean
theorem nmX6 : ∀ a, a < 6 → ∀ b, b < 6 → a ≠ b → (TX6 a).2.1 ≠ (TX6 b).2.1 := by decide +kernel
theorem tyX6_ok : ∀ k, k < 6 → parseFieldDescriptor (TX6 k).2.2.1 = some (tyX6 k) := by decide +kernel
def RX7 : String := "BargesByBreath$Script"
def TX7 : u_T := fun k => match k with
  | 0 => ("BargesByBreath$Script", "signs", "[C", true)
  | 1 => ("BargesByBreath$Script", "length", "I", false)
  | 2 => ("BargesByBreath$Script", "at", "I", false)
  | _ => ("BargesByBreath$Script", "bound", "I", false)
def tyX7 : Nat → FieldType := fun k => match k with
  | 0 => .array .char
  | 1 => .int
  | 2 => .int
  | _ => .int
theorem nmX7 : ∀ a, a < 4 → ∀ b, b < 4 → a ≠ b → (TX7 a).2.1 ≠ (TX7 b).2.1 := by decide +kernel
theorem tyX7_ok : ∀ k, k < 4 → parseFieldDescriptor (TX7 k).2.2.1 = some (tyX7 k) := by decide +kernel
def RX8 : String := "BargesByBreath$Told"
def TX8 : u_T := fun k => match k with
  | 0 => ("BargesByBreath$Told", "numbers", "[J", true)
  | _ => ("BargesByBreath$Told", "many", "I", false)
def tyX8 : Nat → FieldType := fun k => match k with
  | 0 => .array .long
  | _ => .int
theorem nmX8 : ∀ a, a < 2 → ∀ b, b < 2 → a ≠ b → (TX8 a).2.1 ≠ (TX8 b).2.1 := by decide +kernel
theorem tyX8_ok : ∀ k, k < 2 → parseFieldDescriptor (TX8 k).2.2.1 = some (tyX8 k) := by decide +kernel
def RX9 : String := "BargesByBreath"
def TX9 : u_T := fun k => match k with
  | 0 => ("BargesByBreath", "script", "LBargesByBreath$Script;", true)
  | 1 => ("BargesByBreath", "water", "LBargesByBreath$Canal;", true)
  | 2 => ("BargesByBreath", "now", "LBargesByBreath$Fleet;", true)
  | 3 => ("BargesByBreath", "trial", "LBargesByBreath$Fleet;", true)
  | 4 => ("BargesByBreath", "past", "LBargesByBreath$Past;", true)
  | 5 => ("BargesByBreath", "gossip", "LBargesByBreath$Gossip;", true)
  | 6 => ("BargesByBreath", "draws", "LBargesByBreath$Draws;", true)
  | 7 => ("BargesByBreath", "told", "LBargesByBreath$Told;", true)
  | _ => ("BargesByBreath", "spareRule", "LBargesByBreath$Rule;", false)
def tyX9 : Nat → FieldType := fun k => match k with
  | 0 => .object "BargesByBreath$Script"
  | 1 => .object "BargesByBreath$Canal"
  | 2 => .object "BargesByBreath$Fleet"
  | 3 => .object "BargesByBreath$Fleet"
  | 4 => .object "BargesByBreath$Past"
  | 5 => .object "BargesByBreath$Gossip"
  | 6 => .object "BargesByBreath$Draws"
  | 7 => .object "BargesByBreath$Told"
  | _ => .object "BargesByBreath$Rule"
theorem nmX9 : ∀ a, a < 9 → ∀ b, b < 9 → a ≠ b → (TX9 a).2.1 ≠ (TX9 b).2.1 := by decide +kernel
theorem tyX9_ok : ∀ k, k < 9 → parseFieldDescriptor (TX9 k).2.2.1 = some (tyX9 k) := by decide +kernel
def RX10 : String := "BargesByBreathModel"
def TX10 : u_T := fun k => match k with
  | 0 => ("BargesByBreathModel", "now", "[I", true)
  | 1 => ("BargesByBreathModel", "cells", "I", false)
  | 2 => ("BargesByBreathModel", "barges", "I", false)
  | 3 => ("BargesByBreathModel", "men", "I", false)
  | 4 => ("BargesByBreathModel", "canal", "[I", true)
  | 5 => ("BargesByBreathModel", "lungs", "[I", true)
  | 6 => ("BargesByBreathModel", "text", "[B", true)
  | 7 => ("BargesByBreathModel", "typed", "I", false)
  | 8 => ("BargesByBreathModel", "row", "[J", true)
  | 9 => ("BargesByBreathModel", "rowMany", "I", false)
  | 10 => ("BargesByBreathModel", "thrown", "I", false)
  | 11 => ("BargesByBreathModel", "read", "[B", false)
  | 12 => ("BargesByBreathModel", "length", "I", false)
  | 13 => ("BargesByBreathModel", "top", "I", false)
  | 14 => ("BargesByBreathModel", "at", "I", false)
  | 15 => ("BargesByBreathModel", "wrong", "I", false)
  | 16 => ("BargesByBreathModel", "comes", "[I", true)
  | 17 => ("BargesByBreathModel", "rule", "[B", false)
  | 18 => ("BargesByBreathModel", "otherRule", "[B", false)
  | 19 => ("BargesByBreathModel", "ruleSize", "I", false)
  | 20 => ("BargesByBreathModel", "isAsked", "Z", false)
  | 21 => ("BargesByBreathModel", "asked", "[I", true)
  | 22 => ("BargesByBreathModel", "undos", "[I", true)
  | 23 => ("BargesByBreathModel", "undoMany", "I", false)
  | 24 => ("BargesByBreathModel", "aside", "[I", true)
  | 25 => ("BargesByBreathModel", "then", "[I", true)
  | 26 => ("BargesByBreathModel", "wind", "[I", true)
  | 27 => ("BargesByBreathModel", "hold", "[I", true)
  | 28 => ("BargesByBreathModel", "puff", "[I", true)
  | 29 => ("BargesByBreathModel", "went", "I", false)
  | 30 => ("BargesByBreathModel", "blown", "I", false)
  | 31 => ("BargesByBreathModel", "acts", "[I", true)
  | 32 => ("BargesByBreathModel", "best", "[I", true)
  | 33 => ("BargesByBreathModel", "bestMany", "I", false)
  | 34 => ("BargesByBreathModel", "heardOf", "[I", true)
  | 35 => ("BargesByBreathModel", "heardBy", "[I", true)
  | 36 => ("BargesByBreathModel", "heardMany", "I", false)
  | 37 => ("BargesByBreathModel", "wins", "[Z", true)
  | 38 => ("BargesByBreathModel", "drawn", "I", false)
  | 39 => ("BargesByBreathModel", "came", "I", false)
  | 40 => ("BargesByBreathModel", "kept", "[I", true)
  | 41 => ("BargesByBreathModel", "isKept", "[Z", true)
  | _ => ("BargesByBreathModel", "keptCame", "[I", true)
def tyX10 : Nat → FieldType := fun k => match k with
  | 0 => .array .int
  | 1 => .int
  | 2 => .int
  | 3 => .int
  | 4 => .array .int
  | 5 => .array .int
  | 6 => .array .byte
  | 7 => .int
  | 8 => .array .long
  | 9 => .int
  | 10 => .int
  | 11 => .array .byte
  | 12 => .int
  | 13 => .int
  | 14 => .int
  | 15 => .int
  | 16 => .array .int
  | 17 => .array .byte
  | 18 => .array .byte
  | 19 => .int
  | 20 => .boolean
  | 21 => .array .int
  | 22 => .array .int
  | 23 => .int
  | 24 => .array .int
  | 25 => .array .int
  | 26 => .array .int
  | 27 => .array .int
  | 28 => .array .int
  | 29 => .int
  | 30 => .int
  | 31 => .array .int
  | 32 => .array .int
  | 33 => .int
  | 34 => .array .int
  | 35 => .array .int
  | 36 => .int
  | 37 => .array .boolean
  | 38 => .int
  | 39 => .int
  | 40 => .array .int
  | 41 => .array .boolean
  | _ => .array .int
theorem nmX10 : ∀ a, a < 43 → ∀ b, b < 43 → a ≠ b → (TX10 a).2.1 ≠ (TX10 b).2.1 := by decide +kernel
theorem tyX10_ok : ∀ k, k < 43 → parseFieldDescriptor (TX10 k).2.2.1 = some (tyX10 k) := by decide +kernel
def RL : String := "BargesByBreathLaw"
abbrev vwCl : List vw_C := [(RX0, TX0, 2), (RX1, TX1, 1), (RX2, TX2, 20), (RX4, TX4, 3), (RX5, TX5, 4), (RX6, TX6, 6), (RX7, TX7, 4), (RX8, TX8, 2), (RX9, TX9, 9), (RX10, TX10, 43)]
