section
-- ===== PART A: goes FIRST, ahead of the names: the tables' words, and 'selects' of the private methods out of them =====
/-- a private method of a class that the tables say can be made, by its rows of tables_1 -/
def lw_okq (q : MethodName × Nat) : Prop := (q.1.cls ≠ "java/lang/invoke/MethodHandle" ∧ q.1.cls ≠ "java/lang/invoke/VarHandle") ∧ Cond.instantiable q.1.cls q.2 ∈ tables_1 ∧ Cond.privateMethod q.1 ∈ tables_1 ∧ Cond.instanceMethod q.1 ∈ tables_1
theorem lw_p0 : lw_okq (⟨"VeilOfStones$Tape", "byteAt", "(I)I"⟩, 6) := ⟨⟨by decide +kernel, by decide +kernel⟩, List.mem_of_getElem? (i := 175) (by decide +kernel), List.mem_of_getElem? (i := 389) (by decide +kernel), List.mem_of_getElem? (i := 390) (by decide +kernel)⟩
theorem lw_p1 : lw_okq (⟨"VeilOfStones$Tape", "readWord", "()V"⟩, 6) := ⟨⟨by decide +kernel, by decide +kernel⟩, List.mem_of_getElem? (i := 175) (by decide +kernel), List.mem_of_getElem? (i := 396) (by decide +kernel), List.mem_of_getElem? (i := 397) (by decide +kernel)⟩
theorem lw_p2 : lw_okq (⟨"VeilOfStones$Tape", "readNumber", "()V"⟩, 6) := ⟨⟨by decide +kernel, by decide +kernel⟩, List.mem_of_getElem? (i := 175) (by decide +kernel), List.mem_of_getElem? (i := 452) (by decide +kernel), List.mem_of_getElem? (i := 453) (by decide +kernel)⟩
theorem lw_p3 : lw_okq (⟨"VeilOfStones$Tape", "readSign", "()V"⟩, 6) := ⟨⟨by decide +kernel, by decide +kernel⟩, List.mem_of_getElem? (i := 175) (by decide +kernel), List.mem_of_getElem? (i := 459) (by decide +kernel), List.mem_of_getElem? (i := 460) (by decide +kernel)⟩
theorem lw_p4 : lw_okq (⟨"VeilOfStones$Reader", "checkStart", "(LVeilOfStones$Tape;Z)V"⟩, 9) := ⟨⟨by decide +kernel, by decide +kernel⟩, List.mem_of_getElem? (i := 205) (by decide +kernel), List.mem_of_getElem? (i := 470) (by decide +kernel), List.mem_of_getElem? (i := 471) (by decide +kernel)⟩
theorem lw_p5 : lw_okq (⟨"VeilOfStones$Reader", "blame", "(LVeilOfStones$Tape;I)V"⟩, 9) := ⟨⟨by decide +kernel, by decide +kernel⟩, List.mem_of_getElem? (i := 205) (by decide +kernel), List.mem_of_getElem? (i := 474) (by decide +kernel), List.mem_of_getElem? (i := 475) (by decide +kernel)⟩
theorem lw_p6 : lw_okq (⟨"VeilOfStones$Reader", "readLaw", "(LVeilOfStones$Tape;LVeilOfStones$Script;I)V"⟩, 9) := ⟨⟨by decide +kernel, by decide +kernel⟩, List.mem_of_getElem? (i := 205) (by decide +kernel), List.mem_of_getElem? (i := 479) (by decide +kernel), List.mem_of_getElem? (i := 480) (by decide +kernel)⟩
theorem lw_p7 : lw_okq (⟨"VeilOfStones$Reader", "readStart", "(LVeilOfStones$Tape;LVeilOfStones$Script;I)Z"⟩, 9) := ⟨⟨by decide +kernel, by decide +kernel⟩, List.mem_of_getElem? (i := 205) (by decide +kernel), List.mem_of_getElem? (i := 491) (by decide +kernel), List.mem_of_getElem? (i := 492) (by decide +kernel)⟩
theorem lw_p8 : lw_okq (⟨"VeilOfStones$Reader", "startsAsk", "()Z"⟩, 9) := ⟨⟨by decide +kernel, by decide +kernel⟩, List.mem_of_getElem? (i := 205) (by decide +kernel), List.mem_of_getElem? (i := 499) (by decide +kernel), List.mem_of_getElem? (i := 500) (by decide +kernel)⟩
theorem lw_p9 : lw_okq (⟨"VeilOfStones$Reader", "lastWaiting", "()I"⟩, 9) := ⟨⟨by decide +kernel, by decide +kernel⟩, List.mem_of_getElem? (i := 205) (by decide +kernel), List.mem_of_getElem? (i := 503) (by decide +kernel), List.mem_of_getElem? (i := 504) (by decide +kernel)⟩
theorem lw_p10 : lw_okq (⟨"VeilOfStones$Reader", "await", "(I)V"⟩, 9) := ⟨⟨by decide +kernel, by decide +kernel⟩, List.mem_of_getElem? (i := 205) (by decide +kernel), List.mem_of_getElem? (i := 507) (by decide +kernel), List.mem_of_getElem? (i := 508) (by decide +kernel)⟩
theorem lw_p11 : lw_okq (⟨"VeilOfStones$Reader", "readSign", "(LVeilOfStones$Tape;LVeilOfStones$Script;I)V"⟩, 9) := ⟨⟨by decide +kernel, by decide +kernel⟩, List.mem_of_getElem? (i := 205) (by decide +kernel), List.mem_of_getElem? (i := 511) (by decide +kernel), List.mem_of_getElem? (i := 512) (by decide +kernel)⟩
theorem lw_p12 : lw_okq (⟨"VeilOfStones$Reader", "canFollow", "(II)Z"⟩, 9) := ⟨⟨by decide +kernel, by decide +kernel⟩, List.mem_of_getElem? (i := 205) (by decide +kernel), List.mem_of_getElem? (i := 515) (by decide +kernel), List.mem_of_getElem? (i := 516) (by decide +kernel)⟩
theorem lw_p13 : lw_okq (⟨"VeilOfStones$Reader", "settle", "(LVeilOfStones$Script;I)V"⟩, 9) := ⟨⟨by decide +kernel, by decide +kernel⟩, List.mem_of_getElem? (i := 205) (by decide +kernel), List.mem_of_getElem? (i := 525) (by decide +kernel), List.mem_of_getElem? (i := 526) (by decide +kernel)⟩
theorem lw_p14 : lw_okq (⟨"VeilOfStones$Reader", "drop", "()V"⟩, 9) := ⟨⟨by decide +kernel, by decide +kernel⟩, List.mem_of_getElem? (i := 205) (by decide +kernel), List.mem_of_getElem? (i := 529) (by decide +kernel), List.mem_of_getElem? (i := 530) (by decide +kernel)⟩
theorem lw_p15 : lw_okq (⟨"VeilOfStones$Reader", "readDeed", "(LVeilOfStones$Tape;LVeilOfStones$Script;I)V"⟩, 9) := ⟨⟨by decide +kernel, by decide +kernel⟩, List.mem_of_getElem? (i := 205) (by decide +kernel), List.mem_of_getElem? (i := 537) (by decide +kernel), List.mem_of_getElem? (i := 538) (by decide +kernel)⟩
def lw_privs_1 : List (MethodName × Nat) := [(⟨"VeilOfStones$Tape", "byteAt", "(I)I"⟩, 6), (⟨"VeilOfStones$Tape", "readWord", "()V"⟩, 6), (⟨"VeilOfStones$Tape", "readNumber", "()V"⟩, 6), (⟨"VeilOfStones$Tape", "readSign", "()V"⟩, 6), (⟨"VeilOfStones$Reader", "checkStart", "(LVeilOfStones$Tape;Z)V"⟩, 9), (⟨"VeilOfStones$Reader", "blame", "(LVeilOfStones$Tape;I)V"⟩, 9), (⟨"VeilOfStones$Reader", "readLaw", "(LVeilOfStones$Tape;LVeilOfStones$Script;I)V"⟩, 9), (⟨"VeilOfStones$Reader", "readStart", "(LVeilOfStones$Tape;LVeilOfStones$Script;I)Z"⟩, 9), (⟨"VeilOfStones$Reader", "startsAsk", "()Z"⟩, 9), (⟨"VeilOfStones$Reader", "lastWaiting", "()I"⟩, 9), (⟨"VeilOfStones$Reader", "await", "(I)V"⟩, 9), (⟨"VeilOfStones$Reader", "readSign", "(LVeilOfStones$Tape;LVeilOfStones$Script;I)V"⟩, 9), (⟨"VeilOfStones$Reader", "canFollow", "(II)Z"⟩, 9), (⟨"VeilOfStones$Reader", "settle", "(LVeilOfStones$Script;I)V"⟩, 9), (⟨"VeilOfStones$Reader", "drop", "()V"⟩, 9), (⟨"VeilOfStones$Reader", "readDeed", "(LVeilOfStones$Tape;LVeilOfStones$Script;I)V"⟩, 9)]
theorem lw_r1 : ∀ q ∈ lw_privs_1, lw_okq q := List.forall_mem_cons.mpr ⟨lw_p0, List.forall_mem_cons.mpr ⟨lw_p1, List.forall_mem_cons.mpr ⟨lw_p2, List.forall_mem_cons.mpr ⟨lw_p3, List.forall_mem_cons.mpr ⟨lw_p4, List.forall_mem_cons.mpr ⟨lw_p5, List.forall_mem_cons.mpr ⟨lw_p6, List.forall_mem_cons.mpr ⟨lw_p7, List.forall_mem_cons.mpr ⟨lw_p8, List.forall_mem_cons.mpr ⟨lw_p9, List.forall_mem_cons.mpr ⟨lw_p10, List.forall_mem_cons.mpr ⟨lw_p11, List.forall_mem_cons.mpr ⟨lw_p12, List.forall_mem_cons.mpr ⟨lw_p13, List.forall_mem_cons.mpr ⟨lw_p14, List.forall_mem_cons.mpr ⟨lw_p15, fun _ h => absurd h List.not_mem_nil⟩⟩⟩⟩⟩⟩⟩⟩⟩⟩⟩⟩⟩⟩⟩⟩
theorem lw_p16 : lw_okq (⟨"VeilOfStones$Reader", "readNumber", "(LVeilOfStones$Tape;II)I"⟩, 9) := ⟨⟨by decide +kernel, by decide +kernel⟩, List.mem_of_getElem? (i := 205) (by decide +kernel), List.mem_of_getElem? (i := 541) (by decide +kernel), List.mem_of_getElem? (i := 542) (by decide +kernel)⟩
theorem lw_p17 : lw_okq (⟨"VeilOfStones$Reader", "expect", "(LVeilOfStones$Tape;I)V"⟩, 9) := ⟨⟨by decide +kernel, by decide +kernel⟩, List.mem_of_getElem? (i := 205) (by decide +kernel), List.mem_of_getElem? (i := 545) (by decide +kernel), List.mem_of_getElem? (i := 546) (by decide +kernel)⟩
theorem lw_p18 : lw_okq (⟨"VeilOfStones$Stones", "word", "(I)I"⟩, 1) := ⟨⟨by decide +kernel, by decide +kernel⟩, List.mem_of_getElem? (i := 36) (by decide +kernel), List.mem_of_getElem? (i := 592) (by decide +kernel), List.mem_of_getElem? (i := 593) (by decide +kernel)⟩
theorem lw_p19 : lw_okq (⟨"VeilOfStones$Laws", "nameStone", "(LVeilOfStones$Stones;I)V"⟩, 3) := ⟨⟨by decide +kernel, by decide +kernel⟩, List.mem_of_getElem? (i := 119) (by decide +kernel), List.mem_of_getElem? (i := 639) (by decide +kernel), List.mem_of_getElem? (i := 640) (by decide +kernel)⟩
theorem lw_p20 : lw_okq (⟨"VeilOfStones$Stones", "move", "(III)V"⟩, 1) := ⟨⟨by decide +kernel, by decide +kernel⟩, List.mem_of_getElem? (i := 36) (by decide +kernel), List.mem_of_getElem? (i := 679) (by decide +kernel), List.mem_of_getElem? (i := 680) (by decide +kernel)⟩
theorem lw_p21 : lw_okq (⟨"VeilOfStones", "follow", "(LVeilOfStones$Script;I)Z"⟩, 8) := ⟨⟨by decide +kernel, by decide +kernel⟩, List.mem_of_getElem? (i := 22) (by decide +kernel), List.mem_of_getElem? (i := 729) (by decide +kernel), List.mem_of_getElem? (i := 730) (by decide +kernel)⟩
theorem lw_p22 : lw_okq (⟨"VeilOfStones$Leveller", "turn", "(I)V"⟩, 7) := ⟨⟨by decide +kernel, by decide +kernel⟩, List.mem_of_getElem? (i := 241) (by decide +kernel), List.mem_of_getElem? (i := 816) (by decide +kernel), List.mem_of_getElem? (i := 817) (by decide +kernel)⟩
theorem lw_p23 : lw_okq (⟨"VeilOfStones$Leveller", "isLevel", "(II)Z"⟩, 7) := ⟨⟨by decide +kernel, by decide +kernel⟩, List.mem_of_getElem? (i := 241) (by decide +kernel), List.mem_of_getElem? (i := 820) (by decide +kernel), List.mem_of_getElem? (i := 821) (by decide +kernel)⟩
theorem lw_p24 : lw_okq (⟨"VeilOfStones$Leveller", "bitsOf", "(I)I"⟩, 7) := ⟨⟨by decide +kernel, by decide +kernel⟩, List.mem_of_getElem? (i := 241) (by decide +kernel), List.mem_of_getElem? (i := 826) (by decide +kernel), List.mem_of_getElem? (i := 827) (by decide +kernel)⟩
theorem lw_p25 : lw_okq (⟨"VeilOfStones$March", "greatestStep", "()I"⟩, 5) := ⟨⟨by decide +kernel, by decide +kernel⟩, List.mem_of_getElem? (i := 270) (by decide +kernel), List.mem_of_getElem? (i := 842) (by decide +kernel), List.mem_of_getElem? (i := 843) (by decide +kernel)⟩
theorem lw_p26 : lw_okq (⟨"VeilOfStones$March", "veilAt", "(I)I"⟩, 5) := ⟨⟨by decide +kernel, by decide +kernel⟩, List.mem_of_getElem? (i := 270) (by decide +kernel), List.mem_of_getElem? (i := 846) (by decide +kernel), List.mem_of_getElem? (i := 847) (by decide +kernel)⟩
theorem lw_p27 : lw_okq (⟨"VeilOfStones$March", "turn", "()Z"⟩, 5) := ⟨⟨by decide +kernel, by decide +kernel⟩, List.mem_of_getElem? (i := 270) (by decide +kernel), List.mem_of_getElem? (i := 854) (by decide +kernel), List.mem_of_getElem? (i := 855) (by decide +kernel)⟩
theorem lw_p28 : lw_okq (⟨"VeilOfStones$March", "swap", "(II)V"⟩, 5) := ⟨⟨by decide +kernel, by decide +kernel⟩, List.mem_of_getElem? (i := 270) (by decide +kernel), List.mem_of_getElem? (i := 858) (by decide +kernel), List.mem_of_getElem? (i := 859) (by decide +kernel)⟩
theorem lw_p29 : lw_okq (⟨"VeilOfStones$Penance", "weightOf", "(I)I"⟩, 6) := ⟨⟨by decide +kernel, by decide +kernel⟩, List.mem_of_getElem? (i := 293) (by decide +kernel), List.mem_of_getElem? (i := 882) (by decide +kernel), List.mem_of_getElem? (i := 883) (by decide +kernel)⟩
theorem lw_p30 : lw_okq (⟨"VeilOfStones$Penance", "behind", "(II)I"⟩, 6) := ⟨⟨by decide +kernel, by decide +kernel⟩, List.mem_of_getElem? (i := 293) (by decide +kernel), List.mem_of_getElem? (i := 886) (by decide +kernel), List.mem_of_getElem? (i := 887) (by decide +kernel)⟩
theorem lw_p31 : lw_okq (⟨"VeilOfStones$Penance", "fewestFrom", "(I)I"⟩, 6) := ⟨⟨by decide +kernel, by decide +kernel⟩, List.mem_of_getElem? (i := 293) (by decide +kernel), List.mem_of_getElem? (i := 890) (by decide +kernel), List.mem_of_getElem? (i := 891) (by decide +kernel)⟩
def lw_privs_2 : List (MethodName × Nat) := [(⟨"VeilOfStones$Reader", "readNumber", "(LVeilOfStones$Tape;II)I"⟩, 9), (⟨"VeilOfStones$Reader", "expect", "(LVeilOfStones$Tape;I)V"⟩, 9), (⟨"VeilOfStones$Stones", "word", "(I)I"⟩, 1), (⟨"VeilOfStones$Laws", "nameStone", "(LVeilOfStones$Stones;I)V"⟩, 3), (⟨"VeilOfStones$Stones", "move", "(III)V"⟩, 1), (⟨"VeilOfStones", "follow", "(LVeilOfStones$Script;I)Z"⟩, 8), (⟨"VeilOfStones$Leveller", "turn", "(I)V"⟩, 7), (⟨"VeilOfStones$Leveller", "isLevel", "(II)Z"⟩, 7), (⟨"VeilOfStones$Leveller", "bitsOf", "(I)I"⟩, 7), (⟨"VeilOfStones$March", "greatestStep", "()I"⟩, 5), (⟨"VeilOfStones$March", "veilAt", "(I)I"⟩, 5), (⟨"VeilOfStones$March", "turn", "()Z"⟩, 5), (⟨"VeilOfStones$March", "swap", "(II)V"⟩, 5), (⟨"VeilOfStones$Penance", "weightOf", "(I)I"⟩, 6), (⟨"VeilOfStones$Penance", "behind", "(II)I"⟩, 6), (⟨"VeilOfStones$Penance", "fewestFrom", "(I)I"⟩, 6)]
theorem lw_r2 : ∀ q ∈ lw_privs_2, lw_okq q := List.forall_mem_cons.mpr ⟨lw_p16, List.forall_mem_cons.mpr ⟨lw_p17, List.forall_mem_cons.mpr ⟨lw_p18, List.forall_mem_cons.mpr ⟨lw_p19, List.forall_mem_cons.mpr ⟨lw_p20, List.forall_mem_cons.mpr ⟨lw_p21, List.forall_mem_cons.mpr ⟨lw_p22, List.forall_mem_cons.mpr ⟨lw_p23, List.forall_mem_cons.mpr ⟨lw_p24, List.forall_mem_cons.mpr ⟨lw_p25, List.forall_mem_cons.mpr ⟨lw_p26, List.forall_mem_cons.mpr ⟨lw_p27, List.forall_mem_cons.mpr ⟨lw_p28, List.forall_mem_cons.mpr ⟨lw_p29, List.forall_mem_cons.mpr ⟨lw_p30, List.forall_mem_cons.mpr ⟨lw_p31, fun _ h => absurd h List.not_mem_nil⟩⟩⟩⟩⟩⟩⟩⟩⟩⟩⟩⟩⟩⟩⟩⟩
theorem lw_p32 : lw_okq (⟨"VeilOfStones$Penance", "lowestSin", "(I)I"⟩, 6) := ⟨⟨by decide +kernel, by decide +kernel⟩, List.mem_of_getElem? (i := 293) (by decide +kernel), List.mem_of_getElem? (i := 899) (by decide +kernel), List.mem_of_getElem? (i := 900) (by decide +kernel)⟩
theorem lw_p33 : lw_okq (⟨"VeilOfStones$Scales", "fitsAll", "(I)Z"⟩, 5) := ⟨⟨by decide +kernel, by decide +kernel⟩, List.mem_of_getElem? (i := 65) (by decide +kernel), List.mem_of_getElem? (i := 937) (by decide +kernel), List.mem_of_getElem? (i := 938) (by decide +kernel)⟩
theorem lw_p34 : lw_okq (⟨"VeilOfStones$Scales", "signBy", "(III)I"⟩, 5) := ⟨⟨by decide +kernel, by decide +kernel⟩, List.mem_of_getElem? (i := 65) (by decide +kernel), List.mem_of_getElem? (i := 941) (by decide +kernel), List.mem_of_getElem? (i := 942) (by decide +kernel)⟩
theorem lw_p35 : lw_okq (⟨"VeilOfStones$Scales", "veilBy", "(II)I"⟩, 5) := ⟨⟨by decide +kernel, by decide +kernel⟩, List.mem_of_getElem? (i := 65) (by decide +kernel), List.mem_of_getElem? (i := 945) (by decide +kernel), List.mem_of_getElem? (i := 946) (by decide +kernel)⟩
theorem lw_p36 : lw_okq (⟨"VeilOfStones$Scales", "mostAlike", "(III)I"⟩, 5) := ⟨⟨by decide +kernel, by decide +kernel⟩, List.mem_of_getElem? (i := 65) (by decide +kernel), List.mem_of_getElem? (i := 960) (by decide +kernel), List.mem_of_getElem? (i := 961) (by decide +kernel)⟩
theorem lw_p37 : lw_okq (⟨"VeilOfStonesModel", "four", "(I)V"⟩, 37) := ⟨⟨by decide +kernel, by decide +kernel⟩, List.mem_of_getElem? (i := 998) (by decide +kernel), List.mem_of_getElem? (i := 1127) (by decide +kernel), List.mem_of_getElem? (i := 1128) (by decide +kernel)⟩
theorem lw_p38 : lw_okq (⟨"VeilOfStonesModel", "readText", "()I"⟩, 37) := ⟨⟨by decide +kernel, by decide +kernel⟩, List.mem_of_getElem? (i := 998) (by decide +kernel), List.mem_of_getElem? (i := 1142) (by decide +kernel), List.mem_of_getElem? (i := 1143) (by decide +kernel)⟩
theorem lw_p39 : lw_okq (⟨"VeilOfStonesModel", "nextToken", "()V"⟩, 37) := ⟨⟨by decide +kernel, by decide +kernel⟩, List.mem_of_getElem? (i := 998) (by decide +kernel), List.mem_of_getElem? (i := 1146) (by decide +kernel), List.mem_of_getElem? (i := 1147) (by decide +kernel)⟩
theorem lw_p40 : lw_okq (⟨"VeilOfStonesModel", "byteAt", "(I)I"⟩, 37) := ⟨⟨by decide +kernel, by decide +kernel⟩, List.mem_of_getElem? (i := 998) (by decide +kernel), List.mem_of_getElem? (i := 1150) (by decide +kernel), List.mem_of_getElem? (i := 1151) (by decide +kernel)⟩
theorem lw_p41 : lw_okq (⟨"VeilOfStonesModel", "clause", "()I"⟩, 37) := ⟨⟨by decide +kernel, by decide +kernel⟩, List.mem_of_getElem? (i := 998) (by decide +kernel), List.mem_of_getElem? (i := 1161) (by decide +kernel), List.mem_of_getElem? (i := 1162) (by decide +kernel)⟩
theorem lw_p42 : lw_okq (⟨"VeilOfStonesModel", "sortOf", "()I"⟩, 37) := ⟨⟨by decide +kernel, by decide +kernel⟩, List.mem_of_getElem? (i := 998) (by decide +kernel), List.mem_of_getElem? (i := 1165) (by decide +kernel), List.mem_of_getElem? (i := 1166) (by decide +kernel)⟩
theorem lw_p43 : lw_okq (⟨"VeilOfStonesModel", "isWord", "(J)Z"⟩, 37) := ⟨⟨by decide +kernel, by decide +kernel⟩, List.mem_of_getElem? (i := 998) (by decide +kernel), List.mem_of_getElem? (i := 1178) (by decide +kernel), List.mem_of_getElem? (i := 1179) (by decide +kernel)⟩
theorem lw_p44 : lw_okq (⟨"VeilOfStonesModel", "summed", "()I"⟩, 37) := ⟨⟨by decide +kernel, by decide +kernel⟩, List.mem_of_getElem? (i := 998) (by decide +kernel), List.mem_of_getElem? (i := 1185) (by decide +kernel), List.mem_of_getElem? (i := 1186) (by decide +kernel)⟩
theorem lw_p45 : lw_okq (⟨"VeilOfStonesModel", "goesOn", "()Z"⟩, 37) := ⟨⟨by decide +kernel, by decide +kernel⟩, List.mem_of_getElem? (i := 998) (by decide +kernel), List.mem_of_getElem? (i := 1189) (by decide +kernel), List.mem_of_getElem? (i := 1190) (by decide +kernel)⟩
theorem lw_p46 : lw_okq (⟨"VeilOfStonesModel", "hasParen", "()Z"⟩, 37) := ⟨⟨by decide +kernel, by decide +kernel⟩, List.mem_of_getElem? (i := 998) (by decide +kernel), List.mem_of_getElem? (i := 1193) (by decide +kernel), List.mem_of_getElem? (i := 1194) (by decide +kernel)⟩
theorem lw_p47 : lw_okq (⟨"VeilOfStonesModel", "behindOne", "()I"⟩, 37) := ⟨⟨by decide +kernel, by decide +kernel⟩, List.mem_of_getElem? (i := 998) (by decide +kernel), List.mem_of_getElem? (i := 1197) (by decide +kernel), List.mem_of_getElem? (i := 1198) (by decide +kernel)⟩
def lw_privs_3 : List (MethodName × Nat) := [(⟨"VeilOfStones$Penance", "lowestSin", "(I)I"⟩, 6), (⟨"VeilOfStones$Scales", "fitsAll", "(I)Z"⟩, 5), (⟨"VeilOfStones$Scales", "signBy", "(III)I"⟩, 5), (⟨"VeilOfStones$Scales", "veilBy", "(II)I"⟩, 5), (⟨"VeilOfStones$Scales", "mostAlike", "(III)I"⟩, 5), (⟨"VeilOfStonesModel", "four", "(I)V"⟩, 37), (⟨"VeilOfStonesModel", "readText", "()I"⟩, 37), (⟨"VeilOfStonesModel", "nextToken", "()V"⟩, 37), (⟨"VeilOfStonesModel", "byteAt", "(I)I"⟩, 37), (⟨"VeilOfStonesModel", "clause", "()I"⟩, 37), (⟨"VeilOfStonesModel", "sortOf", "()I"⟩, 37), (⟨"VeilOfStonesModel", "isWord", "(J)Z"⟩, 37), (⟨"VeilOfStonesModel", "summed", "()I"⟩, 37), (⟨"VeilOfStonesModel", "goesOn", "()Z"⟩, 37), (⟨"VeilOfStonesModel", "hasParen", "()Z"⟩, 37), (⟨"VeilOfStonesModel", "behindOne", "()I"⟩, 37)]
theorem lw_r3 : ∀ q ∈ lw_privs_3, lw_okq q := List.forall_mem_cons.mpr ⟨lw_p32, List.forall_mem_cons.mpr ⟨lw_p33, List.forall_mem_cons.mpr ⟨lw_p34, List.forall_mem_cons.mpr ⟨lw_p35, List.forall_mem_cons.mpr ⟨lw_p36, List.forall_mem_cons.mpr ⟨lw_p37, List.forall_mem_cons.mpr ⟨lw_p38, List.forall_mem_cons.mpr ⟨lw_p39, List.forall_mem_cons.mpr ⟨lw_p40, List.forall_mem_cons.mpr ⟨lw_p41, List.forall_mem_cons.mpr ⟨lw_p42, List.forall_mem_cons.mpr ⟨lw_p43, List.forall_mem_cons.mpr ⟨lw_p44, List.forall_mem_cons.mpr ⟨lw_p45, List.forall_mem_cons.mpr ⟨lw_p46, List.forall_mem_cons.mpr ⟨lw_p47, fun _ h => absurd h List.not_mem_nil⟩⟩⟩⟩⟩⟩⟩⟩⟩⟩⟩⟩⟩⟩⟩⟩
theorem lw_p48 : lw_okq (⟨"VeilOfStonesModel", "settle", "(I)V"⟩, 37) := ⟨⟨by decide +kernel, by decide +kernel⟩, List.mem_of_getElem? (i := 998) (by decide +kernel), List.mem_of_getElem? (i := 1201) (by decide +kernel), List.mem_of_getElem? (i := 1202) (by decide +kernel)⟩
theorem lw_p49 : lw_okq (⟨"VeilOfStonesModel", "emit", "(II)V"⟩, 37) := ⟨⟨by decide +kernel, by decide +kernel⟩, List.mem_of_getElem? (i := 998) (by decide +kernel), List.mem_of_getElem? (i := 1205) (by decide +kernel), List.mem_of_getElem? (i := 1206) (by decide +kernel)⟩
theorem lw_p50 : lw_okq (⟨"VeilOfStonesModel", "push", "(I)V"⟩, 37) := ⟨⟨by decide +kernel, by decide +kernel⟩, List.mem_of_getElem? (i := 998) (by decide +kernel), List.mem_of_getElem? (i := 1209) (by decide +kernel), List.mem_of_getElem? (i := 1210) (by decide +kernel)⟩
theorem lw_p51 : lw_okq (⟨"VeilOfStonesModel", "whole", "()V"⟩, 37) := ⟨⟨by decide +kernel, by decide +kernel⟩, List.mem_of_getElem? (i := 998) (by decide +kernel), List.mem_of_getElem? (i := 1213) (by decide +kernel), List.mem_of_getElem? (i := 1214) (by decide +kernel)⟩
theorem lw_p52 : lw_okq (⟨"VeilOfStonesModel", "beginOne", "()I"⟩, 37) := ⟨⟨by decide +kernel, by decide +kernel⟩, List.mem_of_getElem? (i := 998) (by decide +kernel), List.mem_of_getElem? (i := 1217) (by decide +kernel), List.mem_of_getElem? (i := 1218) (by decide +kernel)⟩
theorem lw_p53 : lw_okq (⟨"VeilOfStonesModel", "nameOf", "()I"⟩, 37) := ⟨⟨by decide +kernel, by decide +kernel⟩, List.mem_of_getElem? (i := 998) (by decide +kernel), List.mem_of_getElem? (i := 1221) (by decide +kernel), List.mem_of_getElem? (i := 1222) (by decide +kernel)⟩
theorem lw_p54 : lw_okq (⟨"VeilOfStonesModel", "isBarred", "(I)Z"⟩, 37) := ⟨⟨by decide +kernel, by decide +kernel⟩, List.mem_of_getElem? (i := 998) (by decide +kernel), List.mem_of_getElem? (i := 1225) (by decide +kernel), List.mem_of_getElem? (i := 1226) (by decide +kernel)⟩
theorem lw_p55 : lw_okq (⟨"VeilOfStonesModel", "either", "()I"⟩, 37) := ⟨⟨by decide +kernel, by decide +kernel⟩, List.mem_of_getElem? (i := 998) (by decide +kernel), List.mem_of_getElem? (i := 1229) (by decide +kernel), List.mem_of_getElem? (i := 1230) (by decide +kernel)⟩
theorem lw_p56 : lw_okq (⟨"VeilOfStonesModel", "asks", "()I"⟩, 37) := ⟨⟨by decide +kernel, by decide +kernel⟩, List.mem_of_getElem? (i := 998) (by decide +kernel), List.mem_of_getElem? (i := 1233) (by decide +kernel), List.mem_of_getElem? (i := 1234) (by decide +kernel)⟩
theorem lw_p57 : lw_okq (⟨"VeilOfStonesModel", "compareOf", "()I"⟩, 37) := ⟨⟨by decide +kernel, by decide +kernel⟩, List.mem_of_getElem? (i := 998) (by decide +kernel), List.mem_of_getElem? (i := 1237) (by decide +kernel), List.mem_of_getElem? (i := 1238) (by decide +kernel)⟩
theorem lw_p58 : lw_okq (⟨"VeilOfStonesModel", "line", "(II)I"⟩, 37) := ⟨⟨by decide +kernel, by decide +kernel⟩, List.mem_of_getElem? (i := 998) (by decide +kernel), List.mem_of_getElem? (i := 1242) (by decide +kernel), List.mem_of_getElem? (i := 1243) (by decide +kernel)⟩
theorem lw_p59 : lw_okq (⟨"VeilOfStonesModel", "figure", "(III)I"⟩, 37) := ⟨⟨by decide +kernel, by decide +kernel⟩, List.mem_of_getElem? (i := 998) (by decide +kernel), List.mem_of_getElem? (i := 1246) (by decide +kernel), List.mem_of_getElem? (i := 1247) (by decide +kernel)⟩
theorem lw_p60 : lw_okq (⟨"VeilOfStonesModel", "toOther", "(I)I"⟩, 37) := ⟨⟨by decide +kernel, by decide +kernel⟩, List.mem_of_getElem? (i := 998) (by decide +kernel), List.mem_of_getElem? (i := 1250) (by decide +kernel), List.mem_of_getElem? (i := 1251) (by decide +kernel)⟩
theorem lw_p61 : lw_okq (⟨"VeilOfStonesModel", "ofOne", "(I)I"⟩, 37) := ⟨⟨by decide +kernel, by decide +kernel⟩, List.mem_of_getElem? (i := 998) (by decide +kernel), List.mem_of_getElem? (i := 1254) (by decide +kernel), List.mem_of_getElem? (i := 1255) (by decide +kernel)⟩
theorem lw_p62 : lw_okq (⟨"VeilOfStonesModel", "set", "(III)V"⟩, 37) := ⟨⟨by decide +kernel, by decide +kernel⟩, List.mem_of_getElem? (i := 998) (by decide +kernel), List.mem_of_getElem? (i := 1272) (by decide +kernel), List.mem_of_getElem? (i := 1273) (by decide +kernel)⟩
theorem lw_p63 : lw_okq (⟨"VeilOfStonesModel", "isSister", "(I)Z"⟩, 37) := ⟨⟨by decide +kernel, by decide +kernel⟩, List.mem_of_getElem? (i := 998) (by decide +kernel), List.mem_of_getElem? (i := 1283) (by decide +kernel), List.mem_of_getElem? (i := 1284) (by decide +kernel)⟩
def lw_privs_4 : List (MethodName × Nat) := [(⟨"VeilOfStonesModel", "settle", "(I)V"⟩, 37), (⟨"VeilOfStonesModel", "emit", "(II)V"⟩, 37), (⟨"VeilOfStonesModel", "push", "(I)V"⟩, 37), (⟨"VeilOfStonesModel", "whole", "()V"⟩, 37), (⟨"VeilOfStonesModel", "beginOne", "()I"⟩, 37), (⟨"VeilOfStonesModel", "nameOf", "()I"⟩, 37), (⟨"VeilOfStonesModel", "isBarred", "(I)Z"⟩, 37), (⟨"VeilOfStonesModel", "either", "()I"⟩, 37), (⟨"VeilOfStonesModel", "asks", "()I"⟩, 37), (⟨"VeilOfStonesModel", "compareOf", "()I"⟩, 37), (⟨"VeilOfStonesModel", "line", "(II)I"⟩, 37), (⟨"VeilOfStonesModel", "figure", "(III)I"⟩, 37), (⟨"VeilOfStonesModel", "toOther", "(I)I"⟩, 37), (⟨"VeilOfStonesModel", "ofOne", "(I)I"⟩, 37), (⟨"VeilOfStonesModel", "set", "(III)V"⟩, 37), (⟨"VeilOfStonesModel", "isSister", "(I)Z"⟩, 37)]
theorem lw_r4 : ∀ q ∈ lw_privs_4, lw_okq q := List.forall_mem_cons.mpr ⟨lw_p48, List.forall_mem_cons.mpr ⟨lw_p49, List.forall_mem_cons.mpr ⟨lw_p50, List.forall_mem_cons.mpr ⟨lw_p51, List.forall_mem_cons.mpr ⟨lw_p52, List.forall_mem_cons.mpr ⟨lw_p53, List.forall_mem_cons.mpr ⟨lw_p54, List.forall_mem_cons.mpr ⟨lw_p55, List.forall_mem_cons.mpr ⟨lw_p56, List.forall_mem_cons.mpr ⟨lw_p57, List.forall_mem_cons.mpr ⟨lw_p58, List.forall_mem_cons.mpr ⟨lw_p59, List.forall_mem_cons.mpr ⟨lw_p60, List.forall_mem_cons.mpr ⟨lw_p61, List.forall_mem_cons.mpr ⟨lw_p62, List.forall_mem_cons.mpr ⟨lw_p63, fun _ h => absurd h List.not_mem_nil⟩⟩⟩⟩⟩⟩⟩⟩⟩⟩⟩⟩⟩⟩⟩⟩
theorem lw_p64 : lw_okq (⟨"VeilOfStonesModel", "hasRoom", "(I)Z"⟩, 37) := ⟨⟨by decide +kernel, by decide +kernel⟩, List.mem_of_getElem? (i := 998) (by decide +kernel), List.mem_of_getElem? (i := 1287) (by decide +kernel), List.mem_of_getElem? (i := 1288) (by decide +kernel)⟩
theorem lw_p65 : lw_okq (⟨"VeilOfStonesModel", "stonesOf", "(I)I"⟩, 37) := ⟨⟨by decide +kernel, by decide +kernel⟩, List.mem_of_getElem? (i := 998) (by decide +kernel), List.mem_of_getElem? (i := 1291) (by decide +kernel), List.mem_of_getElem? (i := 1292) (by decide +kernel)⟩
theorem lw_p66 : lw_okq (⟨"VeilOfStonesModel", "get", "(II)I"⟩, 37) := ⟨⟨by decide +kernel, by decide +kernel⟩, List.mem_of_getElem? (i := 998) (by decide +kernel), List.mem_of_getElem? (i := 1295) (by decide +kernel), List.mem_of_getElem? (i := 1296) (by decide +kernel)⟩
theorem lw_p67 : lw_okq (⟨"VeilOfStonesModel", "keep", "()V"⟩, 37) := ⟨⟨by decide +kernel, by decide +kernel⟩, List.mem_of_getElem? (i := 998) (by decide +kernel), List.mem_of_getElem? (i := 1302) (by decide +kernel), List.mem_of_getElem? (i := 1303) (by decide +kernel)⟩
theorem lw_p68 : lw_okq (⟨"VeilOfStonesModel", "taken", "(II)I"⟩, 37) := ⟨⟨by decide +kernel, by decide +kernel⟩, List.mem_of_getElem? (i := 998) (by decide +kernel), List.mem_of_getElem? (i := 1310) (by decide +kernel), List.mem_of_getElem? (i := 1311) (by decide +kernel)⟩
theorem lw_p69 : lw_okq (⟨"VeilOfStonesModel", "goes", "(II)Z"⟩, 37) := ⟨⟨by decide +kernel, by decide +kernel⟩, List.mem_of_getElem? (i := 998) (by decide +kernel), List.mem_of_getElem? (i := 1317) (by decide +kernel), List.mem_of_getElem? (i := 1318) (by decide +kernel)⟩
theorem lw_p70 : lw_okq (⟨"VeilOfStonesModel", "clauseOf", "(II)I"⟩, 37) := ⟨⟨by decide +kernel, by decide +kernel⟩, List.mem_of_getElem? (i := 998) (by decide +kernel), List.mem_of_getElem? (i := 1321) (by decide +kernel), List.mem_of_getElem? (i := 1322) (by decide +kernel)⟩
theorem lw_p71 : lw_okq (⟨"VeilOfStonesModel", "name", "(II)V"⟩, 37) := ⟨⟨by decide +kernel, by decide +kernel⟩, List.mem_of_getElem? (i := 998) (by decide +kernel), List.mem_of_getElem? (i := 1325) (by decide +kernel), List.mem_of_getElem? (i := 1326) (by decide +kernel)⟩
theorem lw_p72 : lw_okq (⟨"VeilOfStonesModel", "work", "(II)V"⟩, 37) := ⟨⟨by decide +kernel, by decide +kernel⟩, List.mem_of_getElem? (i := 998) (by decide +kernel), List.mem_of_getElem? (i := 1329) (by decide +kernel), List.mem_of_getElem? (i := 1330) (by decide +kernel)⟩
theorem lw_p73 : lw_okq (⟨"VeilOfStonesModel", "lowestOf", "(II)I"⟩, 37) := ⟨⟨by decide +kernel, by decide +kernel⟩, List.mem_of_getElem? (i := 998) (by decide +kernel), List.mem_of_getElem? (i := 1348) (by decide +kernel), List.mem_of_getElem? (i := 1349) (by decide +kernel)⟩
theorem lw_p74 : lw_okq (⟨"VeilOfStonesModel", "isStone", "(I)Z"⟩, 37) := ⟨⟨by decide +kernel, by decide +kernel⟩, List.mem_of_getElem? (i := 998) (by decide +kernel), List.mem_of_getElem? (i := 1356) (by decide +kernel), List.mem_of_getElem? (i := 1357) (by decide +kernel)⟩
theorem lw_p75 : lw_okq (⟨"VeilOfStonesModel", "isPlayed", "(I)Z"⟩, 37) := ⟨⟨by decide +kernel, by decide +kernel⟩, List.mem_of_getElem? (i := 998) (by decide +kernel), List.mem_of_getElem? (i := 1368) (by decide +kernel), List.mem_of_getElem? (i := 1369) (by decide +kernel)⟩
theorem lw_p76 : lw_okq (⟨"VeilOfStonesModel", "weightBy", "(II)I"⟩, 37) := ⟨⟨by decide +kernel, by decide +kernel⟩, List.mem_of_getElem? (i := 998) (by decide +kernel), List.mem_of_getElem? (i := 1388) (by decide +kernel), List.mem_of_getElem? (i := 1389) (by decide +kernel)⟩
theorem lw_p77 : lw_okq (⟨"VeilOfStonesModel", "veilBy", "(II)I"⟩, 37) := ⟨⟨by decide +kernel, by decide +kernel⟩, List.mem_of_getElem? (i := 998) (by decide +kernel), List.mem_of_getElem? (i := 1397) (by decide +kernel), List.mem_of_getElem? (i := 1398) (by decide +kernel)⟩
theorem lw_p78 : lw_okq (⟨"VeilOfStonesModel", "weightOf", "(II)I"⟩, 37) := ⟨⟨by decide +kernel, by decide +kernel⟩, List.mem_of_getElem? (i := 998) (by decide +kernel), List.mem_of_getElem? (i := 1401) (by decide +kernel), List.mem_of_getElem? (i := 1402) (by decide +kernel)⟩
theorem lw_p79 : lw_okq (⟨"VeilOfStonesModel", "findWeights", "()V"⟩, 37) := ⟨⟨by decide +kernel, by decide +kernel⟩, List.mem_of_getElem? (i := 998) (by decide +kernel), List.mem_of_getElem? (i := 1409) (by decide +kernel), List.mem_of_getElem? (i := 1410) (by decide +kernel)⟩
def lw_privs_5 : List (MethodName × Nat) := [(⟨"VeilOfStonesModel", "hasRoom", "(I)Z"⟩, 37), (⟨"VeilOfStonesModel", "stonesOf", "(I)I"⟩, 37), (⟨"VeilOfStonesModel", "get", "(II)I"⟩, 37), (⟨"VeilOfStonesModel", "keep", "()V"⟩, 37), (⟨"VeilOfStonesModel", "taken", "(II)I"⟩, 37), (⟨"VeilOfStonesModel", "goes", "(II)Z"⟩, 37), (⟨"VeilOfStonesModel", "clauseOf", "(II)I"⟩, 37), (⟨"VeilOfStonesModel", "name", "(II)V"⟩, 37), (⟨"VeilOfStonesModel", "work", "(II)V"⟩, 37), (⟨"VeilOfStonesModel", "lowestOf", "(II)I"⟩, 37), (⟨"VeilOfStonesModel", "isStone", "(I)Z"⟩, 37), (⟨"VeilOfStonesModel", "isPlayed", "(I)Z"⟩, 37), (⟨"VeilOfStonesModel", "weightBy", "(II)I"⟩, 37), (⟨"VeilOfStonesModel", "veilBy", "(II)I"⟩, 37), (⟨"VeilOfStonesModel", "weightOf", "(II)I"⟩, 37), (⟨"VeilOfStonesModel", "findWeights", "()V"⟩, 37)]
theorem lw_r5 : ∀ q ∈ lw_privs_5, lw_okq q := List.forall_mem_cons.mpr ⟨lw_p64, List.forall_mem_cons.mpr ⟨lw_p65, List.forall_mem_cons.mpr ⟨lw_p66, List.forall_mem_cons.mpr ⟨lw_p67, List.forall_mem_cons.mpr ⟨lw_p68, List.forall_mem_cons.mpr ⟨lw_p69, List.forall_mem_cons.mpr ⟨lw_p70, List.forall_mem_cons.mpr ⟨lw_p71, List.forall_mem_cons.mpr ⟨lw_p72, List.forall_mem_cons.mpr ⟨lw_p73, List.forall_mem_cons.mpr ⟨lw_p74, List.forall_mem_cons.mpr ⟨lw_p75, List.forall_mem_cons.mpr ⟨lw_p76, List.forall_mem_cons.mpr ⟨lw_p77, List.forall_mem_cons.mpr ⟨lw_p78, List.forall_mem_cons.mpr ⟨lw_p79, fun _ h => absurd h List.not_mem_nil⟩⟩⟩⟩⟩⟩⟩⟩⟩⟩⟩⟩⟩⟩⟩⟩
theorem lw_p80 : lw_okq (⟨"VeilOfStonesModel", "spreadNow", "()I"⟩, 37) := ⟨⟨by decide +kernel, by decide +kernel⟩, List.mem_of_getElem? (i := 998) (by decide +kernel), List.mem_of_getElem? (i := 1413) (by decide +kernel), List.mem_of_getElem? (i := 1414) (by decide +kernel)⟩
theorem lw_p81 : lw_okq (⟨"VeilOfStonesModel", "findGravel", "()I"⟩, 37) := ⟨⟨by decide +kernel, by decide +kernel⟩, List.mem_of_getElem? (i := 998) (by decide +kernel), List.mem_of_getElem? (i := 1421) (by decide +kernel), List.mem_of_getElem? (i := 1422) (by decide +kernel)⟩
theorem lw_p82 : lw_okq (⟨"VeilOfStonesModel", "put", "(II)Z"⟩, 37) := ⟨⟨by decide +kernel, by decide +kernel⟩, List.mem_of_getElem? (i := 998) (by decide +kernel), List.mem_of_getElem? (i := 1425) (by decide +kernel), List.mem_of_getElem? (i := 1426) (by decide +kernel)⟩
theorem lw_p83 : lw_okq (⟨"VeilOfStonesModel", "greatestGap", "()I"⟩, 37) := ⟨⟨by decide +kernel, by decide +kernel⟩, List.mem_of_getElem? (i := 998) (by decide +kernel), List.mem_of_getElem? (i := 1433) (by decide +kernel), List.mem_of_getElem? (i := 1434) (by decide +kernel)⟩
theorem lw_p84 : lw_okq (⟨"VeilOfStonesModel", "nextRow", "()Z"⟩, 37) := ⟨⟨by decide +kernel, by decide +kernel⟩, List.mem_of_getElem? (i := 998) (by decide +kernel), List.mem_of_getElem? (i := 1437) (by decide +kernel), List.mem_of_getElem? (i := 1438) (by decide +kernel)⟩
theorem lw_p85 : lw_okq (⟨"VeilOfStonesModel", "exchange", "(II)V"⟩, 37) := ⟨⟨by decide +kernel, by decide +kernel⟩, List.mem_of_getElem? (i := 998) (by decide +kernel), List.mem_of_getElem? (i := 1441) (by decide +kernel), List.mem_of_getElem? (i := 1442) (by decide +kernel)⟩
theorem lw_p86 : lw_okq (⟨"VeilOfStonesModel", "findLight", "(II)I"⟩, 37) := ⟨⟨by decide +kernel, by decide +kernel⟩, List.mem_of_getElem? (i := 998) (by decide +kernel), List.mem_of_getElem? (i := 1449) (by decide +kernel), List.mem_of_getElem? (i := 1450) (by decide +kernel)⟩
theorem lw_p87 : lw_okq (⟨"VeilOfStonesModel", "isFound", "(II)Z"⟩, 37) := ⟨⟨by decide +kernel, by decide +kernel⟩, List.mem_of_getElem? (i := 998) (by decide +kernel), List.mem_of_getElem? (i := 1453) (by decide +kernel), List.mem_of_getElem? (i := 1454) (by decide +kernel)⟩
theorem lw_p88 : lw_okq (⟨"VeilOfStonesModel", "isFit", "(I)Z"⟩, 37) := ⟨⟨by decide +kernel, by decide +kernel⟩, List.mem_of_getElem? (i := 998) (by decide +kernel), List.mem_of_getElem? (i := 1473) (by decide +kernel), List.mem_of_getElem? (i := 1474) (by decide +kernel)⟩
theorem lw_p89 : lw_okq (⟨"VeilOfStonesModel", "tells", "(III)I"⟩, 37) := ⟨⟨by decide +kernel, by decide +kernel⟩, List.mem_of_getElem? (i := 998) (by decide +kernel), List.mem_of_getElem? (i := 1477) (by decide +kernel), List.mem_of_getElem? (i := 1478) (by decide +kernel)⟩
theorem lw_p90 : lw_okq (⟨"VeilOfStonesModel", "alike", "(III)I"⟩, 37) := ⟨⟨by decide +kernel, by decide +kernel⟩, List.mem_of_getElem? (i := 998) (by decide +kernel), List.mem_of_getElem? (i := 1486) (by decide +kernel), List.mem_of_getElem? (i := 1487) (by decide +kernel)⟩
def lw_privs_6 : List (MethodName × Nat) := [(⟨"VeilOfStonesModel", "spreadNow", "()I"⟩, 37), (⟨"VeilOfStonesModel", "findGravel", "()I"⟩, 37), (⟨"VeilOfStonesModel", "put", "(II)Z"⟩, 37), (⟨"VeilOfStonesModel", "greatestGap", "()I"⟩, 37), (⟨"VeilOfStonesModel", "nextRow", "()Z"⟩, 37), (⟨"VeilOfStonesModel", "exchange", "(II)V"⟩, 37), (⟨"VeilOfStonesModel", "findLight", "(II)I"⟩, 37), (⟨"VeilOfStonesModel", "isFound", "(II)Z"⟩, 37), (⟨"VeilOfStonesModel", "isFit", "(I)Z"⟩, 37), (⟨"VeilOfStonesModel", "tells", "(III)I"⟩, 37), (⟨"VeilOfStonesModel", "alike", "(III)I"⟩, 37)]
theorem lw_r6 : ∀ q ∈ lw_privs_6, lw_okq q := List.forall_mem_cons.mpr ⟨lw_p80, List.forall_mem_cons.mpr ⟨lw_p81, List.forall_mem_cons.mpr ⟨lw_p82, List.forall_mem_cons.mpr ⟨lw_p83, List.forall_mem_cons.mpr ⟨lw_p84, List.forall_mem_cons.mpr ⟨lw_p85, List.forall_mem_cons.mpr ⟨lw_p86, List.forall_mem_cons.mpr ⟨lw_p87, List.forall_mem_cons.mpr ⟨lw_p88, List.forall_mem_cons.mpr ⟨lw_p89, List.forall_mem_cons.mpr ⟨lw_p90, fun _ h => absurd h List.not_mem_nil⟩⟩⟩⟩⟩⟩⟩⟩⟩⟩⟩
def lw_privs : List (MethodName × Nat) := lw_privs_1 ++ (lw_privs_2 ++ (lw_privs_3 ++ (lw_privs_4 ++ (lw_privs_5 ++ (lw_privs_6)))))
def lw_tbl : List Cond := k2_sels lw_privs ++ tables_1
theorem lw_privs_ok : ∀ q ∈ lw_privs, lw_okq q := by
  show ∀ q ∈ lw_privs_1 ++ (lw_privs_2 ++ (lw_privs_3 ++ (lw_privs_4 ++ (lw_privs_5 ++ (lw_privs_6))))), lw_okq q
  exact List.forall_mem_append.mpr ⟨lw_r1, List.forall_mem_append.mpr ⟨lw_r2, List.forall_mem_append.mpr ⟨lw_r3, List.forall_mem_append.mpr ⟨lw_r4, List.forall_mem_append.mpr ⟨lw_r5, lw_r6⟩⟩⟩⟩⟩
end
section
theorem goodIn_q {big : List Cond} (ws : List Cond) (ps : List Nat) (hp : ws = ps.filterMap (fun i => big[i]?)) (h : ws.all goodWord = true) : GoodIn big ws := by
  intro w hw
  have h1 := List.all_eq_true.mp h w hw
  rw [hp] at hw
  obtain ⟨i, -, hi⟩ := List.mem_filterMap.mp hw
  exact ⟨List.mem_of_getElem? hi, good_of_word h1⟩
theorem goodIn_ap {big a b : List Cond} (ha : GoodIn big a) (hb : GoodIn big b) : GoodIn big (a ++ b) := fun w h => (List.mem_append.mp h).elim (ha w) (hb w)
/-! classes by their numbers; fields; methods by their numbers; links -/
def zk_cnL : List String := ["VeilOfStones$Convent", "VeilOfStones$Laws", "VeilOfStones$Leveller", "VeilOfStones$March", "VeilOfStones$Penance", "VeilOfStones$Reader", "VeilOfStones$Scales", "VeilOfStones$Script", "VeilOfStones$Steps", "VeilOfStones$Stones", "VeilOfStones$Tape", "VeilOfStones", "VeilOfStonesModel", "VeilOfStonesLaw", "java/lang/Integer", "java/lang/Math", "java/lang/String", "java/lang/StringLatin1", "java/lang/StringUTF16", "java/lang/System", "jdk/internal/util/Preconditions"]
def zk_cn (c : Nat) : String := zk_cnL.getD c ""
def zk_fld0 : List (String × String × String × Bool) := [("VeilOfStones$Convent", "sisters", "I", false), ("VeilOfStones$Convent", "texts", "I", false), ("VeilOfStones$Convent", "ruling", "I", false), ("VeilOfStones$Convent", "stones", "LVeilOfStones$Stones;", true), ("VeilOfStones$Convent", "steps", "LVeilOfStones$Steps;", true), ("VeilOfStones$Convent", "scales", "LVeilOfStones$Scales;", true)]
def zk_fld1 : List (String × String × String × Bool) := [("VeilOfStones$Laws", "scripts", "[LVeilOfStones$Script;", true), ("VeilOfStones$Laws", "names", "[I", true), ("VeilOfStones$Laws", "veils", "[I", true)]
def zk_fld2 : List (String × String × String × Bool) := [("VeilOfStones$Leveller", "found", "I", false), ("VeilOfStones$Leveller", "gravel", "I", false), ("VeilOfStones$Leveller", "stoneAt", "[I", true), ("VeilOfStones$Leveller", "ownerAt", "[I", true), ("VeilOfStones$Leveller", "weightAt", "[I", true), ("VeilOfStones$Leveller", "veils", "[I", true), ("VeilOfStones$Leveller", "sizes", "[I", true)]
def zk_fld3 : List (String × String × String × Bool) := [("VeilOfStones$March", "least", "I", false), ("VeilOfStones$March", "sisters", "I", false), ("VeilOfStones$March", "veils", "[I", true), ("VeilOfStones$March", "order", "[I", true), ("VeilOfStones$March", "best", "[I", true)]
def zk_fld4 : List (String × String × String × Bool) := [("VeilOfStones$Penance", "rows", "I", false), ("VeilOfStones$Penance", "inAllRows", "I", false), ("VeilOfStones$Penance", "stones", "I", false), ("VeilOfStones$Penance", "weightAt", "[I", true), ("VeilOfStones$Penance", "goers", "[I", true), ("VeilOfStones$Penance", "fewest", "[I", true)]
def zk_fld5 : List (String × String × String × Bool) := [("VeilOfStones$Reader", "flaw", "I", false), ("VeilOfStones$Reader", "place", "I", false), ("VeilOfStones$Reader", "hadWeighs", "Z", false), ("VeilOfStones$Reader", "hadGoes", "Z", false), ("VeilOfStones$Reader", "waiting", "[I", true), ("VeilOfStones$Reader", "waits", "I", false), ("VeilOfStones$Reader", "open", "I", false), ("VeilOfStones$Reader", "brackets", "I", false), ("VeilOfStones$Reader", "compared", "Z", false)]
def zk_fld6 : List (String × String × String × Bool) := [("VeilOfStones$Scales", "ones", "[I", true), ("VeilOfStones$Scales", "others", "[I", true), ("VeilOfStones$Scales", "signs", "[I", true), ("VeilOfStones$Scales", "count", "I", false), ("VeilOfStones$Scales", "veils", "[I", true)]
def zk_fld7 : List (String × String × String × Bool) := [("VeilOfStones$Script", "clauses", "I", false), ("VeilOfStones$Script", "parts", "[I", true), ("VeilOfStones$Script", "code", "[I", true), ("VeilOfStones$Script", "length", "I", false), ("VeilOfStones$Script", "weighsFrom", "I", false), ("VeilOfStones$Script", "weighsTo", "I", false), ("VeilOfStones$Script", "goesFrom", "I", false), ("VeilOfStones$Script", "goesTo", "I", false), ("VeilOfStones$Script", "stack", "[I", true)]
def zk_fld8 : List (String × String × String × Bool) := [("VeilOfStones$Steps", "rows", "[I", true), ("VeilOfStones$Steps", "oldest", "I", false), ("VeilOfStones$Steps", "count", "I", false)]
def zk_fld9 : List (String × String × String × Bool) := [("VeilOfStones$Stones", "row", "[I", true)]
def zk_fld10 : List (String × String × String × Bool) := [("VeilOfStones$Tape", "bytes", "[C", true), ("VeilOfStones$Tape", "length", "I", false), ("VeilOfStones$Tape", "token", "I", false), ("VeilOfStones$Tape", "tokenAt", "I", false), ("VeilOfStones$Tape", "value", "I", false), ("VeilOfStones$Tape", "at", "I", false)]
def zk_fld11 : List (String × String × String × Bool) := [("VeilOfStones", "now", "LVeilOfStones$Convent;", true), ("VeilOfStones", "kept", "LVeilOfStones$Convent;", true), ("VeilOfStones", "laws", "LVeilOfStones$Laws;", true), ("VeilOfStones", "tape", "LVeilOfStones$Tape;", true), ("VeilOfStones", "reader", "LVeilOfStones$Reader;", true), ("VeilOfStones", "leveller", "LVeilOfStones$Leveller;", true), ("VeilOfStones", "march", "LVeilOfStones$March;", true), ("VeilOfStones", "penance", "LVeilOfStones$Penance;", true)]
def zk_fld12 : List (String × String × String × Bool) := [("VeilOfStonesModel", "a", "[I", true), ("VeilOfStonesModel", "image", "[I", true), ("VeilOfStonesModel", "texts", "[I", true), ("VeilOfStonesModel", "tape", "[I", true), ("VeilOfStonesModel", "taped", "I", false), ("VeilOfStonesModel", "fault", "I", false), ("VeilOfStonesModel", "faultPlace", "I", false), ("VeilOfStonesModel", "at", "I", false), ("VeilOfStonesModel", "place", "I", false), ("VeilOfStonesModel", "token", "I", false), ("VeilOfStonesModel", "number", "I", false), ("VeilOfStonesModel", "word", "J", false), ("VeilOfStonesModel", "text0", "I", false), ("VeilOfStonesModel", "clauses", "I", false), ("VeilOfStonesModel", "written", "I", false), ("VeilOfStonesModel", "came", "I", false), ("VeilOfStonesModel", "pile", "[I", true), ("VeilOfStonesModel", "piled", "I", false), ("VeilOfStonesModel", "opens", "I", false), ("VeilOfStonesModel", "isWhole", "Z", false), ("VeilOfStonesModel", "sort0", "I", false), ("VeilOfStonesModel", "once", "I", false), ("VeilOfStonesModel", "named", "[I", true), ("VeilOfStonesModel", "values", "[J", true), ("VeilOfStonesModel", "truth", "[Z", true), ("VeilOfStonesModel", "weights", "[I", true), ("VeilOfStonesModel", "counts", "[I", true), ("VeilOfStonesModel", "gravelWeight", "[I", true), ("VeilOfStonesModel", "gravelOf", "[I", true), ("VeilOfStonesModel", "gravel", "[I", true), ("VeilOfStonesModel", "row", "[I", true), ("VeilOfStonesModel", "best", "[I", true), ("VeilOfStonesModel", "found", "[I", true), ("VeilOfStonesModel", "cameFrom", "[I", true), ("VeilOfStonesModel", "cameBy", "[I", true), ("VeilOfStonesModel", "sins", "[I", true), ("VeilOfStonesModel", "left", "[I", true)]
def zk_fld : List (List (String × String × String × Bool)) := [zk_fld0, zk_fld1, zk_fld2, zk_fld3, zk_fld4, zk_fld5, zk_fld6, zk_fld7, zk_fld8, zk_fld9, zk_fld10, zk_fld11, zk_fld12]
def zk_nf (c : Nat) : Nat := (zk_fld.getD c []).length
def zk_TT (c : Nat) : u_T := fun k => (zk_fld.getD c []).getD k ("", "", "", false)
def zk_fty0 : List FieldType := [.int, .int, .int, (.object "VeilOfStones$Stones"), (.object "VeilOfStones$Steps"), (.object "VeilOfStones$Scales")]
def zk_fty1 : List FieldType := [(.array (.object "VeilOfStones$Script")), (.array .int), (.array .int)]
def zk_fty2 : List FieldType := [.int, .int, (.array .int), (.array .int), (.array .int), (.array .int), (.array .int)]
def zk_fty3 : List FieldType := [.int, .int, (.array .int), (.array .int), (.array .int)]
def zk_fty4 : List FieldType := [.int, .int, .int, (.array .int), (.array .int), (.array .int)]
def zk_fty5 : List FieldType := [.int, .int, .boolean, .boolean, (.array .int), .int, .int, .int, .boolean]
def zk_fty6 : List FieldType := [(.array .int), (.array .int), (.array .int), .int, (.array .int)]
def zk_fty7 : List FieldType := [.int, (.array .int), (.array .int), .int, .int, .int, .int, .int, (.array .int)]
def zk_fty8 : List FieldType := [(.array .int), .int, .int]
def zk_fty9 : List FieldType := [(.array .int)]
def zk_fty10 : List FieldType := [(.array .char), .int, .int, .int, .int, .int]
def zk_fty11 : List FieldType := [(.object "VeilOfStones$Convent"), (.object "VeilOfStones$Convent"), (.object "VeilOfStones$Laws"), (.object "VeilOfStones$Tape"), (.object "VeilOfStones$Reader"), (.object "VeilOfStones$Leveller"), (.object "VeilOfStones$March"), (.object "VeilOfStones$Penance")]
def zk_fty12 : List FieldType := [(.array .int), (.array .int), (.array .int), (.array .int), .int, .int, .int, .int, .int, .int, .int, .long, .int, .int, .int, .int, (.array .int), .int, .int, .boolean, .int, .int, (.array .int), (.array .long), (.array .boolean), (.array .int), (.array .int), (.array .int), (.array .int), (.array .int), (.array .int), (.array .int), (.array .int), (.array .int), (.array .int), (.array .int), (.array .int)]
def zk_ftyL : List (List FieldType) := [zk_fty0, zk_fty1, zk_fty2, zk_fty3, zk_fty4, zk_fty5, zk_fty6, zk_fty7, zk_fty8, zk_fty9, zk_fty10, zk_fty11, zk_fty12]
def zk_ty (c k : Nat) : FieldType := (zk_ftyL.getD c []).getD k .int
def zk_cl : List vw_C := (List.range 13).map fun c => (zk_cn c, zk_TT c, zk_nf c)
abbrev zk_MR : Type := Nat × String × String × ByteArray × Nat × Option FieldType × Nat × Nat × Nat × Nat
def zk_mt0 : List zk_MR := [(0, "<init>", "()V", prog_2_method_1_code, 1, none, 2, 40, 2, 0),
  (0, "copyFrom", "(LVeilOfStones$Convent;)V", prog_2_method_2_code, 2, none, 2, 81, 0, 1),
  (0, "hasSister", "(I)Z", prog_2_method_3_code, 2, (some .boolean), 0, 0, 0, 1),
  (0, "hasText", "(I)Z", prog_2_method_4_code, 2, (some .boolean), 0, 0, 0, 1),
  (0, "hasRoom", "(I)Z", prog_2_method_5_code, 2, (some .boolean), 3, 65, 0, 1),
  (0, "addVow", "(II)I", prog_2_method_6_code, 3, (some .int), 4, 86, 0, 2),
  (0, "firstToGo", "(IILVeilOfStones$Laws;)I", prog_2_method_7_code, 5, (some .int), 4, 97, 0, 3),
  (0, "strip", "(I)I", prog_2_method_8_code, 2, (some .int), 4, 86, 0, 1),
  (0, "passOn", "(III)I", prog_2_method_9_code, 5, (some .int), 4, 87, 0, 3),
  (0, "pardon", "(I)I", prog_2_method_10_code, 3, (some .int), 4, 87, 0, 1),
  (0, "letGoBy", "(I)I", prog_2_method_11_code, 3, (some .int), 2, 82, 0, 1),
  (0, "rage", "(IILVeilOfStones$Laws;)I", prog_2_method_12_code, 9, (some .int), 5, 121, 0, 3),
  (1, "<init>", "()V", prog_3_method_1_code, 2, none, 2, 40, 2, 0),
  (1, "scriptAt", "(I)LVeilOfStones$Script;", prog_3_method_2_code, 2, (some (.object "VeilOfStones$Script")), 0, 0, 0, 1),
  (1, "nameStone", "(LVeilOfStones$Stones;I)V", prog_3_method_3_code, 3, none, 2, 42, 0, 2),
  (1, "weightBy", "(ILVeilOfStones$Stones;I)I", prog_3_method_4_code, 5, (some .int), 3, 72, 0, 3),
  (1, "goesBy", "(ILVeilOfStones$Stones;II)Z", prog_3_method_5_code, 6, (some .boolean), 3, 72, 0, 4),
  (1, "weighVeils", "(ILVeilOfStones$Stones;)V", prog_3_method_6_code, 5, none, 4, 96, 0, 2),
  (1, "veilOf", "(I)I", prog_3_method_7_code, 2, (some .int), 0, 0, 0, 1),
  (2, "<init>", "()V", prog_4_method_1_code, 1, none, 1, 20, 2, 0),
  (2, "look", "(LVeilOfStones$Convent;LVeilOfStones$Laws;)Z", prog_4_method_2_code, 5, (some .boolean), 5, 120, 0, 2),
  (2, "search", "(II)Z", prog_4_method_3_code, 5, (some .boolean), 2, 46, 0, 2),
  (2, "turn", "(I)V", prog_4_method_4_code, 6, none, 0, 0, 0, 1),
  (2, "isLevel", "(II)Z", prog_4_method_5_code, 6, (some .boolean), 1, 21, 0, 2),
  (2, "bitsOf", "(I)I", prog_4_method_6_code, 4, (some .int), 0, 0, 0, 1),
  (3, "<init>", "()V", prog_5_method_1_code, 1, none, 1, 20, 2, 0),
  (3, "arrange", "(LVeilOfStones$Laws;I)V", prog_5_method_2_code, 6, none, 2, 60, 0, 2),
  (3, "sisterAt", "(I)I", prog_5_method_3_code, 2, (some .int), 0, 0, 0, 1),
  (3, "greatestStep", "()I", prog_5_method_4_code, 3, (some .int), 1, 22, 0, 0),
  (3, "veilAt", "(I)I", prog_5_method_5_code, 3, (some .int), 0, 0, 0, 1),
  (3, "turn", "()Z", prog_5_method_6_code, 5, (some .boolean), 1, 23, 0, 0),
  (3, "swap", "(II)V", prog_5_method_7_code, 4, none, 0, 0, 0, 2),
  (4, "<init>", "()V", prog_6_method_1_code, 1, none, 1, 20, 2, 0),
  (4, "look", "(LVeilOfStones$Convent;LVeilOfStones$Laws;I)V", prog_6_method_2_code, 7, none, 4, 97, 0, 3),
  (4, "weightOf", "(I)I", prog_6_method_3_code, 4, (some .int), 0, 0, 0, 1),
  (4, "behind", "(II)I", prog_6_method_4_code, 4, (some .int), 0, 0, 0, 2),
  (4, "fewestFrom", "(I)I", prog_6_method_5_code, 2, (some .int), 0, 0, 0, 1),
  (4, "lighten", "(I)I", prog_6_method_6_code, 5, (some .int), 1, 23, 0, 1),
  (4, "sinAt", "(I)I", prog_6_method_7_code, 5, (some .int), 2, 45, 0, 1),
  (4, "lowestSin", "(I)I", prog_6_method_8_code, 3, (some .int), 1, 23, 0, 1)]
def zk_mt1 : List zk_MR := [(4, "guess", "(II)V", prog_6_method_9_code, 9, none, 1, 23, 0, 2),
  (5, "<init>", "()V", prog_7_method_1_code, 1, none, 1, 20, 2, 0),
  (5, "read", "(LVeilOfStones$Tape;LVeilOfStones$Script;)V", prog_7_method_2_code, 5, none, 8, 179, 0, 2),
  (5, "blame", "(LVeilOfStones$Tape;I)V", prog_7_method_3_code, 3, none, 0, 0, 0, 2),
  (5, "checkStart", "(LVeilOfStones$Tape;Z)V", prog_7_method_4_code, 4, none, 1, 22, 0, 2),
  (5, "readDeed", "(LVeilOfStones$Tape;LVeilOfStones$Script;I)V", prog_7_method_5_code, 7, none, 7, 153, 0, 3),
  (5, "expect", "(LVeilOfStones$Tape;I)V", prog_7_method_6_code, 3, none, 6, 129, 0, 2),
  (5, "readNumber", "(LVeilOfStones$Tape;II)I", prog_7_method_7_code, 5, (some .int), 6, 129, 0, 3),
  (5, "readLaw", "(LVeilOfStones$Tape;LVeilOfStones$Script;I)V", prog_7_method_8_code, 7, none, 6, 129, 0, 3),
  (5, "readStart", "(LVeilOfStones$Tape;LVeilOfStones$Script;I)Z", prog_7_method_9_code, 5, (some .boolean), 2, 41, 0, 3),
  (5, "startsAsk", "()Z", prog_7_method_10_code, 2, (some .boolean), 1, 20, 0, 0),
  (5, "readSign", "(LVeilOfStones$Tape;LVeilOfStones$Script;I)V", prog_7_method_11_code, 5, none, 3, 64, 0, 3),
  (5, "canFollow", "(II)Z", prog_7_method_12_code, 3, (some .boolean), 1, 20, 0, 2),
  (5, "isComparison", "(I)Z", prog_7_method_13_code, 1, (some .boolean), 0, 0, 1, 1),
  (5, "rank", "(I)I", prog_7_method_14_code, 1, (some .int), 1, 20, 1, 1),
  (5, "settle", "(LVeilOfStones$Script;I)V", prog_7_method_15_code, 4, none, 2, 41, 0, 2),
  (5, "lastWaiting", "()I", prog_7_method_16_code, 1, (some .int), 0, 0, 0, 0),
  (5, "await", "(I)V", prog_7_method_17_code, 2, none, 0, 0, 0, 1),
  (5, "drop", "()V", prog_7_method_18_code, 2, none, 1, 20, 0, 0),
  (6, "<init>", "()V", prog_8_method_1_code, 1, none, 1, 20, 2, 0),
  (6, "copyFrom", "(LVeilOfStones$Scales;)V", prog_8_method_2_code, 2, none, 1, 60, 0, 1),
  (6, "add", "(III)Z", prog_8_method_3_code, 4, (some .boolean), 0, 0, 0, 3),
  (6, "weigh", "(LVeilOfStones$Convent;LVeilOfStones$Laws;)V", prog_8_method_4_code, 5, none, 5, 120, 0, 2),
  (6, "signBy", "(III)I", prog_8_method_5_code, 4, (some .int), 1, 23, 0, 3),
  (6, "veilBy", "(II)I", prog_8_method_6_code, 4, (some .int), 0, 0, 0, 2),
  (6, "fitting", "(I)I", prog_8_method_7_code, 4, (some .int), 3, 68, 0, 1),
  (6, "fitsAll", "(I)Z", prog_8_method_8_code, 3, (some .boolean), 2, 46, 0, 1),
  (6, "mostTelling", "(II)I", prog_8_method_9_code, 8, (some .int), 3, 74, 0, 2),
  (6, "mostAlike", "(III)I", prog_8_method_10_code, 9, (some .int), 2, 46, 0, 3),
  (7, "<init>", "()V", prog_9_method_1_code, 1, none, 1, 20, 2, 0),
  (7, "clear", "()V", prog_9_method_2_code, 1, none, 0, 0, 0, 0),
  (7, "isFull", "()Z", prog_9_method_3_code, 1, (some .boolean), 0, 0, 0, 0),
  (7, "weighs", "()Z", prog_9_method_4_code, 1, (some .boolean), 0, 0, 0, 0),
  (7, "goes", "()Z", prog_9_method_5_code, 1, (some .boolean), 0, 0, 0, 0),
  (7, "part", "(II)I", prog_9_method_6_code, 4, (some .int), 0, 0, 0, 2),
  (7, "addClause", "(IIII)V", prog_9_method_7_code, 6, none, 0, 0, 0, 4),
  (7, "add", "(I)V", prog_9_method_8_code, 2, none, 0, 0, 0, 1),
  (7, "startLaw", "(I)V", prog_9_method_9_code, 2, none, 1, 25, 0, 1),
  (7, "endLaw", "(I)V", prog_9_method_10_code, 2, none, 0, 0, 0, 1),
  (7, "run", "(II[I)I", prog_9_method_11_code, 9, (some .int), 2, 44, 0, 3)]
def zk_mt2 : List zk_MR := [(7, "joined", "(III)I", prog_9_method_12_code, 3, (some .int), 1, 22, 1, 3),
  (7, "held", "(J)J", prog_9_method_13_code, 2, (some .long), 0, 0, 1, 1),
  (7, "isSo", "(III)Z", prog_9_method_14_code, 3, (some .boolean), 0, 0, 1, 3),
  (8, "<init>", "()V", prog_10_method_1_code, 1, none, 1, 20, 2, 0),
  (8, "copyFrom", "(LVeilOfStones$Steps;)V", prog_10_method_2_code, 2, none, 1, 60, 0, 1),
  (8, "keep", "(LVeilOfStones$Stones;)V", prog_10_method_3_code, 3, none, 1, 60, 0, 1),
  (8, "takeBack", "(LVeilOfStones$Stones;)Z", prog_10_method_4_code, 3, (some .boolean), 1, 60, 0, 1),
  (9, "<init>", "()V", prog_11_method_1_code, 1, none, 1, 20, 2, 0),
  (9, "copyFrom", "(LVeilOfStones$Stones;)V", prog_11_method_2_code, 2, none, 1, 60, 0, 1),
  (9, "count", "()I", prog_11_method_3_code, 1, (some .int), 0, 0, 0, 0),
  (9, "day", "()I", prog_11_method_4_code, 1, (some .int), 0, 0, 0, 0),
  (9, "passDay", "()V", prog_11_method_5_code, 1, none, 0, 0, 0, 0),
  (9, "has", "(I)Z", prog_11_method_6_code, 2, (some .boolean), 0, 0, 0, 1),
  (9, "word", "(I)I", prog_11_method_7_code, 2, (some .int), 0, 0, 0, 1),
  (9, "kindOf", "(I)I", prog_11_method_8_code, 2, (some .int), 1, 21, 0, 1),
  (9, "sewnOn", "(I)I", prog_11_method_9_code, 2, (some .int), 1, 21, 0, 1),
  (9, "placeOf", "(I)I", prog_11_method_10_code, 2, (some .int), 1, 21, 0, 1),
  (9, "ownerOf", "(I)I", prog_11_method_11_code, 2, (some .int), 1, 21, 0, 1),
  (9, "inside", "(I)I", prog_11_method_12_code, 4, (some .int), 2, 42, 0, 1),
  (9, "sew", "(II)I", prog_11_method_13_code, 4, (some .int), 1, 20, 0, 2),
  (9, "drop", "(I)V", prog_11_method_14_code, 2, none, 3, 65, 0, 1),
  (9, "give", "(II)V", prog_11_method_15_code, 3, none, 3, 65, 0, 2),
  (9, "move", "(III)V", prog_11_method_16_code, 4, none, 2, 42, 0, 3),
  (10, "<init>", "()V", prog_12_method_1_code, 1, none, 1, 20, 2, 0),
  (10, "hasRoomFor", "(I)Z", prog_12_method_2_code, 2, (some .boolean), 0, 0, 0, 1),
  (10, "addFour", "(I)V", prog_12_method_3_code, 3, none, 0, 0, 0, 1),
  (10, "rewind", "()V", prog_12_method_4_code, 1, none, 6, 129, 0, 0),
  (10, "advance", "()V", prog_12_method_5_code, 1, none, 5, 109, 0, 0),
  (10, "byteAt", "(I)I", prog_12_method_6_code, 2, (some .int), 0, 0, 0, 1),
  (10, "isLetter", "(I)Z", prog_12_method_7_code, 1, (some .boolean), 0, 0, 1, 1),
  (10, "isDigit", "(I)Z", prog_12_method_8_code, 1, (some .boolean), 0, 0, 1, 1),
  (10, "readNumber", "()V", prog_12_method_9_code, 1, none, 1, 21, 0, 0),
  (10, "readWord", "()V", prog_12_method_10_code, 5, none, 4, 85, 0, 0),
  (10, "readSign", "()V", prog_12_method_11_code, 1, none, 1, 21, 0, 0),
  (10, "signOf", "(I)I", prog_12_method_12_code, 1, (some .int), 0, 0, 1, 1),
  (11, "<init>", "()V", prog_1_method_1_code, 1, none, 3, 61, 2, 0),
  (11, "sister", "()I", prog_1_method_2_code, 1, (some .int), 0, 0, 0, 0),
  (11, "feed", "(IIIII)I", prog_1_method_3_code, 6, (some .int), 1, 22, 0, 5),
  (11, "end", "(I)I", prog_1_method_4_code, 2, (some .int), 0, 0, 0, 1),
  (11, "text", "()I", prog_1_method_5_code, 2, (some .int), 9, 203, 0, 0)]
def zk_mt3 : List zk_MR := [(11, "fault", "(I)I", prog_1_method_6_code, 2, (some .int), 0, 0, 0, 1),
  (11, "by", "(I)Z", prog_1_method_7_code, 2, (some .boolean), 1, 21, 0, 1),
  (11, "vow", "(II)I", prog_1_method_8_code, 3, (some .int), 5, 108, 0, 2),
  (11, "sin", "(II)I", prog_1_method_9_code, 3, (some .int), 5, 121, 0, 2),
  (11, "pass", "(III)I", prog_1_method_10_code, 4, (some .int), 5, 111, 0, 3),
  (11, "forgive", "(I)I", prog_1_method_11_code, 2, (some .int), 5, 109, 0, 1),
  (11, "later", "(I)I", prog_1_method_12_code, 2, (some .int), 3, 104, 0, 1),
  (11, "played", "(I)I", prog_1_method_13_code, 4, (some .int), 6, 145, 0, 1),
  (11, "follow", "(LVeilOfStones$Script;I)Z", prog_1_method_14_code, 5, (some .boolean), 5, 121, 0, 2),
  (11, "storm", "(II)I", prog_1_method_15_code, 3, (some .int), 6, 149, 0, 2),
  (11, "undo", "()I", prog_1_method_16_code, 1, (some .int), 2, 82, 0, 0),
  (11, "stone", "(II)I", prog_1_method_17_code, 3, (some .int), 4, 96, 0, 2),
  (11, "veil", "(II)I", prog_1_method_18_code, 3, (some .int), 5, 120, 0, 2),
  (11, "spread", "()I", prog_1_method_19_code, 4, (some .int), 5, 120, 0, 0),
  (11, "level", "(I)I", prog_1_method_20_code, 3, (some .int), 6, 144, 0, 1),
  (11, "procession", "(I)I", prog_1_method_21_code, 2, (some .int), 5, 120, 0, 1),
  (11, "light", "(III)I", prog_1_method_22_code, 5, (some .int), 5, 123, 0, 3),
  (11, "done", "(IIIZ)I", prog_1_method_23_code, 5, (some .int), 5, 123, 0, 4),
  (11, "tell", "(III)I", prog_1_method_24_code, 4, (some .int), 1, 23, 0, 3),
  (11, "hush", "()I", prog_1_method_25_code, 2, (some .int), 0, 0, 0, 0),
  (11, "fits", "()I", prog_1_method_26_code, 1, (some .int), 6, 144, 0, 0),
  (11, "next", "()I", prog_1_method_27_code, 1, (some .int), 6, 144, 0, 0),
  (11, "image", "()I", prog_1_method_28_code, 1, (some .int), 3, 102, 0, 0),
  (11, "back", "()I", prog_1_method_29_code, 1, (some .int), 3, 102, 0, 0),
  (11, "about", "(I)I", prog_1_method_30_code, 2, (some .int), 3, 65, 0, 1),
  (12, "<init>", "()V", prog_14_method_1_code, 1, none, 1, 22, 2, 0),
  (12, "copy", "([I[I)V", prog_14_method_2_code, 3, none, 0, 0, 1, 2),
  (12, "isIn", "(III)Z", prog_14_method_3_code, 3, (some .boolean), 0, 0, 1, 3),
  (12, "has", "(II)Z", prog_14_method_4_code, 2, (some .boolean), 0, 0, 1, 2),
  (12, "bits", "(I)I", prog_14_method_5_code, 3, (some .int), 0, 0, 1, 1),
  (12, "isSister", "(I)Z", prog_14_method_6_code, 2, (some .boolean), 1, 22, 0, 1),
  (12, "isStone", "(I)Z", prog_14_method_7_code, 2, (some .boolean), 1, 22, 0, 1),
  (12, "isKind", "(I)Z", prog_14_method_8_code, 1, (some .boolean), 1, 22, 1, 1),
  (12, "get", "(II)I", prog_14_method_9_code, 3, (some .int), 0, 0, 0, 2),
  (12, "set", "(III)V", prog_14_method_10_code, 4, none, 0, 0, 0, 3),
  (12, "stonesOf", "(I)I", prog_14_method_11_code, 4, (some .int), 1, 22, 0, 1),
  (12, "hasRoom", "(I)Z", prog_14_method_12_code, 2, (some .boolean), 2, 45, 0, 1),
  (12, "sister", "()I", prog_14_method_13_code, 1, (some .int), 0, 0, 0, 0),
  (12, "four", "(I)V", prog_14_method_14_code, 3, none, 0, 0, 0, 1),
  (12, "feed", "(IIIII)I", prog_14_method_15_code, 6, (some .int), 1, 22, 0, 5)]
def zk_mt4 : List zk_MR := [(12, "end", "(I)I", prog_14_method_16_code, 2, (some .int), 1, 22, 0, 1),
  (12, "byteAt", "(I)I", prog_14_method_17_code, 2, (some .int), 0, 0, 0, 1),
  (12, "isLetter", "(I)Z", prog_14_method_18_code, 1, (some .boolean), 1, 22, 1, 1),
  (12, "isDigit", "(I)Z", prog_14_method_19_code, 1, (some .boolean), 1, 22, 1, 1),
  (12, "nextToken", "()V", prog_14_method_20_code, 3, none, 2, 42, 0, 0),
  (12, "w3", "(III)J", prog_14_method_21_code, 3, (some .long), 0, 0, 1, 3),
  (12, "w5", "(IIIII)J", prog_14_method_22_code, 5, (some .long), 1, 22, 1, 5),
  (12, "w4", "(IIII)J", prog_14_method_23_code, 4, (some .long), 1, 22, 1, 4),
  (12, "w6", "(IIIIII)J", prog_14_method_24_code, 6, (some .long), 2, 46, 1, 6),
  (12, "isWord", "(J)Z", prog_14_method_25_code, 3, (some .boolean), 0, 0, 0, 1),
  (12, "emit", "(II)V", prog_14_method_26_code, 3, none, 0, 0, 0, 2),
  (12, "push", "(I)V", prog_14_method_27_code, 2, none, 0, 0, 0, 1),
  (12, "whole", "()V", prog_14_method_28_code, 1, none, 1, 22, 0, 0),
  (12, "settle", "(I)V", prog_14_method_29_code, 2, none, 1, 22, 0, 1),
  (12, "nameOf", "()I", prog_14_method_30_code, 1, (some .int), 3, 71, 0, 0),
  (12, "isBarred", "(I)Z", prog_14_method_31_code, 2, (some .boolean), 0, 0, 0, 1),
  (12, "beginOne", "()I", prog_14_method_32_code, 2, (some .int), 4, 91, 0, 0),
  (12, "hasParen", "()Z", prog_14_method_33_code, 2, (some .boolean), 0, 0, 0, 0),
  (12, "goesOn", "()Z", prog_14_method_34_code, 1, (some .boolean), 1, 21, 0, 0),
  (12, "behindOne", "()I", prog_14_method_35_code, 2, (some .int), 3, 64, 0, 0),
  (12, "summed", "()I", prog_14_method_36_code, 2, (some .int), 5, 112, 0, 0),
  (12, "compareOf", "()I", prog_14_method_37_code, 1, (some .int), 0, 0, 0, 0),
  (12, "asks", "()I", prog_14_method_38_code, 5, (some .int), 6, 133, 0, 0),
  (12, "either", "()I", prog_14_method_39_code, 6, (some .int), 7, 157, 0, 0),
  (12, "sortOf", "()I", prog_14_method_40_code, 1, (some .int), 3, 71, 0, 0),
  (12, "figure", "(III)I", prog_14_method_41_code, 4, (some .int), 3, 64, 0, 3),
  (12, "ofOne", "(I)I", prog_14_method_42_code, 3, (some .int), 4, 87, 0, 1),
  (12, "toOther", "(I)I", prog_14_method_43_code, 4, (some .int), 5, 109, 0, 1),
  (12, "line", "(II)I", prog_14_method_44_code, 3, (some .int), 6, 132, 0, 2),
  (12, "clause", "()I", prog_14_method_45_code, 6, (some .int), 8, 182, 0, 0),
  (12, "readText", "()I", prog_14_method_46_code, 2, (some .int), 9, 207, 0, 0),
  (12, "text", "()I", prog_14_method_47_code, 1, (some .int), 10, 228, 0, 0),
  (12, "fault", "(I)I", prog_14_method_48_code, 2, (some .int), 0, 0, 0, 1),
  (12, "by", "(I)Z", prog_14_method_49_code, 2, (some .boolean), 1, 22, 0, 1),
  (12, "clip", "(J)J", prog_14_method_50_code, 2, (some .long), 0, 0, 1, 1),
  (12, "two", "(IJJ)J", prog_14_method_51_code, 5, (some .long), 1, 21, 1, 3),
  (12, "isAsked", "(IJJ)Z", prog_14_method_52_code, 5, (some .boolean), 0, 0, 1, 3),
  (12, "work", "(II)V", prog_14_method_53_code, 10, none, 2, 45, 0, 2),
  (12, "clauseOf", "(II)I", prog_14_method_54_code, 4, (some .int), 0, 0, 0, 2),
  (12, "name", "(II)V", prog_14_method_55_code, 3, none, 1, 22, 0, 2)]
def zk_mt5 : List zk_MR := [(12, "weightBy", "(II)I", prog_14_method_56_code, 4, (some .int), 3, 74, 0, 2),
  (12, "goes", "(II)Z", prog_14_method_57_code, 4, (some .boolean), 3, 74, 0, 2),
  (12, "weightOf", "(II)I", prog_14_method_58_code, 5, (some .int), 4, 97, 0, 2),
  (12, "veilBy", "(II)I", prog_14_method_59_code, 3, (some .int), 5, 121, 0, 2),
  (12, "taken", "(II)I", prog_14_method_60_code, 4, (some .int), 4, 97, 0, 2),
  (12, "keep", "()V", prog_14_method_61_code, 3, none, 1, 22, 0, 0),
  (12, "undo", "()I", prog_14_method_62_code, 3, (some .int), 1, 23, 0, 0),
  (12, "vow", "(II)I", prog_14_method_63_code, 4, (some .int), 3, 66, 0, 2),
  (12, "sin", "(II)I", prog_14_method_64_code, 4, (some .int), 5, 120, 0, 2),
  (12, "lowestOf", "(II)I", prog_14_method_65_code, 4, (some .int), 1, 22, 0, 2),
  (12, "pass", "(III)I", prog_14_method_66_code, 5, (some .int), 3, 66, 0, 3),
  (12, "forgive", "(I)I", prog_14_method_67_code, 2, (some .int), 3, 66, 0, 1),
  (12, "later", "(I)I", prog_14_method_68_code, 3, (some .int), 2, 44, 0, 1),
  (12, "isPlayed", "(I)Z", prog_14_method_69_code, 4, (some .boolean), 6, 143, 0, 1),
  (12, "played", "(I)I", prog_14_method_70_code, 3, (some .int), 7, 166, 0, 1),
  (12, "anew", "(I)I", prog_14_method_71_code, 1, (some .int), 0, 0, 1, 1),
  (12, "storm", "(II)I", prog_14_method_72_code, 8, (some .int), 5, 120, 0, 2),
  (12, "stone", "(II)I", prog_14_method_73_code, 3, (some .int), 4, 97, 0, 2),
  (12, "veil", "(II)I", prog_14_method_74_code, 3, (some .int), 6, 143, 0, 2),
  (12, "findWeights", "()V", prog_14_method_75_code, 2, none, 6, 143, 0, 0),
  (12, "spreadNow", "()I", prog_14_method_76_code, 4, (some .int), 0, 0, 0, 0),
  (12, "spread", "()I", prog_14_method_77_code, 1, (some .int), 7, 164, 0, 0),
  (12, "findGravel", "()I", prog_14_method_78_code, 3, (some .int), 4, 97, 0, 0),
  (12, "put", "(II)Z", prog_14_method_79_code, 5, (some .boolean), 1, 21, 0, 2),
  (12, "level", "(I)I", prog_14_method_80_code, 6, (some .int), 7, 164, 0, 1),
  (12, "exchange", "(II)V", prog_14_method_81_code, 4, none, 0, 0, 0, 2),
  (12, "nextRow", "()Z", prog_14_method_82_code, 6, (some .boolean), 1, 23, 0, 0),
  (12, "greatestGap", "()I", prog_14_method_83_code, 4, (some .int), 0, 0, 0, 0),
  (12, "procession", "(I)I", prog_14_method_84_code, 6, (some .int), 7, 164, 0, 1),
  (12, "isFound", "(II)Z", prog_14_method_85_code, 4, (some .boolean), 0, 0, 0, 2),
  (12, "findLight", "(II)I", prog_14_method_86_code, 7, (some .int), 5, 121, 0, 2),
  (12, "light", "(III)I", prog_14_method_87_code, 8, (some .int), 6, 147, 0, 3),
  (12, "done", "(IIIZ)I", prog_14_method_88_code, 11, (some .int), 5, 121, 0, 4),
  (12, "tell", "(III)I", prog_14_method_89_code, 5, (some .int), 2, 43, 0, 3),
  (12, "hush", "()I", prog_14_method_90_code, 2, (some .int), 0, 0, 0, 0),
  (12, "tells", "(III)I", prog_14_method_91_code, 5, (some .int), 6, 143, 0, 3),
  (12, "isFit", "(I)Z", prog_14_method_92_code, 4, (some .boolean), 7, 167, 0, 1),
  (12, "fits", "()I", prog_14_method_93_code, 3, (some .int), 8, 190, 0, 0),
  (12, "alike", "(III)I", prog_14_method_94_code, 8, (some .int), 7, 167, 0, 3),
  (12, "next", "()I", prog_14_method_95_code, 7, (some .int), 9, 212, 0, 0)]
def zk_mt6 : List zk_MR := [(12, "image", "()I", prog_14_method_96_code, 1, (some .int), 1, 22, 0, 0),
  (12, "back", "()I", prog_14_method_97_code, 1, (some .int), 1, 22, 0, 0),
  (12, "about", "(I)I", prog_14_method_98_code, 2, (some .int), 2, 45, 0, 1),
  (14, "compare", "(II)I", prog_15_method_40_code, 2, (some .int), 0, 0, 1, 2),
  (14, "bitCount", "(I)I", prog_15_method_49_code, 1, (some .int), 0, 0, 1, 1),
  (15, "abs", "(I)I", prog_16_method_59_code, 1, (some .int), 0, 0, 1, 1),
  (15, "max", "(II)I", prog_16_method_65_code, 2, (some .int), 0, 0, 1, 2),
  (15, "min", "(II)I", prog_16_method_69_code, 2, (some .int), 0, 0, 1, 2),
  (16, "length", "()I", prog_17_method_54_code, 1, (some .int), 1, 20, 0, 0),
  (16, "charAt", "(I)C", prog_17_method_56_code, 2, (some .char), 3, 64, 0, 1),
  (16, "coder", "()B", prog_17_method_152_code, 1, (some .byte), 0, 0, 0, 0),
  (16, "isLatin1", "()Z", prog_17_method_154_code, 1, (some .boolean), 0, 0, 0, 0),
  (16, "checkIndex", "(II)V", prog_17_method_155_code, 2, none, 1, 22, 1, 2),
  (17, "charAt", "([BI)C", prog_18_method_2_code, 2, (some .char), 2, 43, 1, 2),
  (20, "checkIndex", "(IILjava/util/function/BiFunction;)I", prog_21_method_11_code, 3, (some .int), 0, 0, 1, 3)]
def zk_mtab : List zk_MR := zk_mt0 ++ zk_mt1 ++ zk_mt2 ++ zk_mt3 ++ zk_mt4 ++ zk_mt5 ++ zk_mt6
def zk_lawR : zk_MR := (13, "law", "([I)Z", code, 4, some .boolean, 13, 498, 1, 1)
def zk_mr (i : Nat) : zk_MR := (zk_mtab ++ [zk_lawR]).getD i zk_lawR
def zk_yr (r : zk_MR) : MethodName := ⟨zk_cn r.1, r.2.1, r.2.2.1⟩
def zk_yn (i : Nat) : MethodName := zk_yr (zk_mr i)
def zk_cc (i : Nat) : ByteArray := (zk_mr i).2.2.2.1
def zk_mL (i : Nat) : Nat := (zk_mr i).2.2.2.2.1
def zk_rt (i : Nat) : Option FieldType := (zk_mr i).2.2.2.2.2.1
def zk_fr (i : Nat) : Nat := (zk_mr i).2.2.2.2.2.2.1
def zk_lo (i : Nat) : Nat := (zk_mr i).2.2.2.2.2.2.2.1
def zk_kd (i : Nat) : Nat := (zk_mr i).2.2.2.2.2.2.2.2.1
def zk_np (i : Nat) : Nat := (zk_mr i).2.2.2.2.2.2.2.2.2
def zk_own (i : Nat) : Nat := (zk_mr i).1
def zk_wcode : List Cond := zk_mtab.map fun r => .code (zk_yr r) r.2.2.2.1 r.2.2.2.2.1 r.2.2.2.2.2.1
def zk_wkind : List Cond := zk_mtab.map fun r => if r.2.2.2.2.2.2.2.2.1 = 1 then .static (zk_yr r) else .instanceMethod (zk_yr r)
def zk_wsel : List Cond := (zk_mtab.filter fun r => r.2.2.2.2.2.2.2.2.1 == 0).map fun r => .selects (zk_cn r.1) (zk_yr r) (zk_yr r)
def zk_wini : List Cond := zk_cnL.map fun c => .initialized c
def zk_LK : List (Nat × Nat × Nat) := [(0, 42, 88), (0, 46, 84), (0, 49, 60), (0, 52, 98), (0, 56, 244), (0, 61, 2), (0, 65, 89), (0, 69, 4), (0, 72, 85), (0, 75, 99), (0, 79, 96), (0, 82, 16), (0, 88, 100), (0, 92, 94), (0, 95, 101), (0, 99, 92), (0, 102, 97), (0, 105, 90), (0, 108, 91), (0, 111, 6), (1, 25, 94), (1, 31, 90), (1, 35, 95), (1, 38, 97), (1, 41, 13), (1, 45, 72), (1, 49, 14), (1, 60, 79), (1, 64, 247), (1, 70, 246), (1, 73, 73), (1, 82, 89), (1, 85, 96), (1, 88, 15), (2, 40, 89), (2, 46, 96), (2, 50, 97), (2, 56, 15), (2, 62, 17), (2, 66, 18), (2, 69, 98), (2, 72, 244), (2, 77, 22), (2, 81, 23), (2, 85, 24), (2, 88, 247), (2, 94, 246), (3, 28, 247), (3, 34, 246), (3, 37, 18), (3, 44, 28), (3, 54, 30), (3, 58, 29), (3, 61, 245), (3, 64, 31), (4, 36, 89), (4, 42, 96), (4, 49, 15), (4, 55, 16), (4, 59, 34), (4, 62, 35), (4, 66, 36), (4, 69, 247), (4, 74, 39), (5, 41, 70), (5, 46, 106), (5, 54, 71), (5, 58, 44), (5, 62, 107), (5, 65, 48), (5, 69, 45), (5, 75, 43), (5, 79, 47), (5, 83, 46), (5, 86, 75), (5, 93, 77), (5, 97, 49), (5, 101, 51), (5, 104, 78), (5, 107, 76), (5, 110, 50), (5, 113, 57), (5, 116, 56), (5, 120, 52), (5, 124, 54), (5, 128, 55), (5, 132, 58), (5, 135, 53), (6, 43, 17), (6, 49, 18), (6, 53, 64), (6, 57, 243), (6, 62, 66), (6, 66, 63), (6, 70, 68), (6, 73, 246), (7, 40, 75), (7, 44, 246), (7, 50, 80), (7, 54, 81), (7, 58, 82), (9, 21, 93), (9, 25, 89), (9, 29, 96), (9, 32, 90), (9, 35, 97), (9, 38, 102), (9, 42, 92), (9, 46, 94), (9, 49, 95), (10, 31, 107), (10, 34, 108), (10, 38, 109), (10, 42, 112), (10, 45, 110), (10, 48, 111), (10, 51, 113), (10, 54, 247), (10, 62, 248), (10, 67, 249), (10, 71, 114), (11, 21, 12), (11, 65, 104), (11, 69, 105), (11, 79, 13), (11, 83, 42), (11, 93, 3), (11, 99, 5), (11, 103, 6), (11, 107, 7), (11, 111, 8), (11, 115, 9), (11, 118, 10), (11, 126, 128), (11, 130, 74), (11, 133, 11), (11, 144, 86), (11, 153, 92), (11, 158, 94), (11, 161, 95), (11, 164, 96), (11, 167, 97), (11, 170, 15), (11, 174, 2), (11, 177, 17), (11, 181, 18), (11, 184, 98), (11, 187, 247), (11, 192, 246), (11, 195, 20), (11, 199, 21), (11, 206, 26), (11, 213, 27), (11, 216, 33), (11, 219, 37), (11, 222, 38), (11, 225, 40), (11, 239, 61), (11, 246, 62), (11, 250, 65), (11, 253, 67), (11, 256, 1), (11, 260, 90), (11, 264, 89), (11, 266, 244), (12, 79, 146), (12, 83, 147), (12, 87, 153), (12, 91, 155), (12, 95, 149), (12, 101, 158), (12, 108, 161), (12, 117, 163), (12, 125, 162), (12, 132, 165), (12, 136, 166), (12, 156, 170), (12, 160, 167), (12, 164, 168), (12, 171, 164), (12, 174, 172), (12, 177, 174), (12, 181, 175), (12, 184, 171), (12, 187, 177), (12, 191, 173), (12, 194, 178), (12, 197, 179), (12, 200, 176), (12, 203, 169), (12, 207, 180), (12, 210, 181), (12, 213, 182), (12, 218, 185), (12, 224, 186), (12, 229, 187), (12, 232, 184), (12, 238, 183), (12, 241, 188), (12, 244, 189), (12, 247, 190), (12, 254, 194), (12, 258, 195), (12, 262, 196), (12, 266, 198), (12, 269, 199), (12, 272, 197), (12, 277, 148), (12, 281, 200), (12, 284, 202), (12, 287, 201), (12, 290, 154), (12, 294, 152), (12, 297, 150), (12, 300, 156), (12, 303, 205), (12, 306, 204), (12, 309, 209), (12, 312, 151), (12, 315, 207), (12, 318, 208), (12, 321, 210), (12, 324, 211), (12, 327, 212), (12, 330, 213), (12, 333, 215), (12, 336, 203), (12, 339, 219), (12, 342, 220), (12, 345, 222), (12, 348, 223), (12, 351, 225), (12, 354, 227), (12, 357, 226), (12, 360, 229), (12, 363, 230), (12, 366, 235), (12, 369, 236), (12, 372, 237), (12, 375, 238), (13, 9, 115), (13, 12, 145), (13, 13, 116), (13, 17, 157), (13, 18, 117), (13, 22, 159), (13, 23, 118), (13, 27, 160), (13, 28, 119), (13, 31, 191), (13, 32, 120), (13, 35, 192), (13, 36, 121), (13, 40, 193), (13, 41, 122), (13, 45, 207), (13, 46, 123), (13, 49, 208), (13, 50, 124), (13, 54, 210), (13, 55, 125), (13, 58, 211), (13, 59, 126), (13, 62, 212), (13, 63, 127), (13, 66, 214), (13, 67, 129), (13, 70, 216), (13, 71, 130), (13, 74, 206), (13, 75, 131), (13, 78, 217), (13, 79, 132), (13, 82, 218), (13, 83, 133), (13, 86, 221), (13, 87, 134), (13, 90, 224), (13, 91, 135), (13, 94, 228), (13, 95, 136), (13, 98, 231), (13, 99, 137), (13, 103, 232), (13, 104, 138), (13, 107, 233), (13, 108, 139), (13, 111, 234), (13, 112, 140), (13, 115, 237), (13, 116, 141), (13, 119, 239), (13, 120, 142), (13, 123, 240), (13, 124, 143), (13, 127, 241), (13, 128, 144), (13, 131, 242), (16, 335, 250), (16, 492, 251), (16, 495, 253), (16, 1059, 254), (17, 9, 252), (18, 414, 252)]
def zk_wLK : List Cond := zk_LK.map fun r => .methodLink (zk_cn r.1) r.2.1 (zk_yn r.2.2)
def zk_AK : List (Nat × Nat) := [(3, 48), (6, 28), (8, 22), (9, 15)]
def zk_wAK : List Cond := zk_AK.map fun r => .methodLink (zk_cn r.1) r.2 arraycopyName
def zk_OK : List (Nat × Nat) := [(0, 3), (1, 3), (2, 3), (3, 3), (4, 3), (5, 3), (6, 3), (7, 3), (8, 1), (9, 3), (10, 3), (11, 1), (12, 1)]
def zk_wOK : List Cond := zk_OK.map fun r => .methodLink (zk_cn r.1) r.2 Lib.objectInit
def zk_FL : List (Nat × Nat × Nat × Nat) := [(0, 9, 0, 0), (0, 15, 0, 1), (0, 18, 0, 2), (0, 24, 0, 3), (0, 31, 0, 4), (0, 38, 0, 5), (1, 11, 1, 0), (1, 17, 1, 1), (1, 21, 1, 2), (1, 53, 7, 4), (1, 57, 7, 5), (1, 76, 7, 6), (1, 79, 7, 7), (2, 9, 2, 0), (2, 15, 2, 1), (2, 18, 2, 2), (2, 22, 2, 3), (2, 25, 2, 4), (2, 28, 2, 5), (2, 31, 2, 6), (2, 34, 0, 3), (2, 53, 0, 2), (3, 9, 3, 0), (3, 15, 3, 1), (3, 18, 3, 2), (3, 22, 3, 3), (3, 25, 3, 4), (4, 9, 4, 0), (4, 15, 4, 1), (4, 18, 4, 2), (4, 21, 4, 3), (4, 25, 4, 4), (4, 28, 4, 5), (4, 31, 0, 3), (4, 46, 0, 2), (5, 9, 5, 0), (5, 15, 5, 1), (5, 18, 5, 2), (5, 22, 5, 3), (5, 25, 5, 4), (5, 29, 5, 5), (5, 32, 5, 6), (5, 35, 5, 7), (5, 38, 5, 8), (5, 51, 10, 2), (5, 72, 10, 3), (5, 90, 10, 4), (6, 11, 6, 0), (6, 15, 6, 1), (6, 18, 6, 2), (6, 21, 6, 3), (6, 25, 6, 4), (6, 34, 0, 1), (6, 39, 0, 3), (7, 9, 7, 0), (7, 15, 7, 1), (7, 19, 7, 2), (7, 22, 7, 3), (7, 25, 7, 4), (7, 28, 7, 5), (7, 31, 7, 6), (7, 34, 7, 7), (7, 37, 7, 8), (8, 11, 8, 0), (8, 15, 8, 1), (8, 19, 8, 2), (8, 28, 9, 0), (9, 11, 9, 0), (10, 9, 10, 0), (10, 15, 10, 1), (10, 19, 10, 2), (10, 22, 10, 3), (10, 25, 10, 4), (10, 28, 10, 5), (11, 10, 11, 0), (11, 16, 11, 1), (11, 22, 11, 2), (11, 29, 11, 3), (11, 36, 11, 4), (11, 43, 11, 5), (11, 50, 11, 6), (11, 57, 11, 7), (11, 61, 0, 0), (11, 73, 10, 1), (11, 76, 0, 1), (11, 87, 5, 0), (11, 90, 5, 1), (11, 96, 0, 2), (11, 121, 7, 0), (11, 136, 0, 4), (11, 140, 0, 3), (11, 150, 8, 2), (11, 203, 2, 0), (11, 210, 3, 0), (11, 229, 4, 1), (11, 232, 4, 0), (11, 235, 0, 5), (11, 245, 6, 3), (12, 7, 12, 0), (12, 13, 12, 1), (12, 16, 12, 2), (12, 19, 12, 3), (12, 22, 12, 5), (12, 26, 12, 6), (12, 29, 12, 16), (12, 32, 12, 22), (12, 35, 12, 23), (12, 39, 12, 24), (12, 43, 12, 25), (12, 46, 12, 26), (12, 49, 12, 27), (12, 52, 12, 28), (12, 55, 12, 29), (12, 58, 12, 30), (12, 61, 12, 31), (12, 64, 12, 32), (12, 67, 12, 33), (12, 70, 12, 34), (12, 73, 12, 35), (12, 76, 12, 36), (12, 98, 12, 4), (12, 105, 12, 7), (12, 111, 12, 8), (12, 114, 12, 9), (12, 121, 12, 10), (12, 128, 12, 11), (12, 140, 12, 12), (12, 143, 12, 14), (12, 146, 12, 17), (12, 149, 12, 19), (12, 153, 12, 18), (12, 168, 12, 20), (12, 235, 12, 21)]
def zk_wFL : List Cond := zk_FL.map fun r => .fieldLink (zk_cn r.1) r.2.1 (zk_TT r.2.2.1 r.2.2.2).1 (zk_TT r.2.2.1 r.2.2.2).2.1 (zk_TT r.2.2.1 r.2.2.2).2.2.1
def zk_wlay : List Cond := (List.range 13).flatMap fun c => u_ws (zk_cn c) (zk_TT c) (zk_nf c)
def zk_CL : List (Nat × Nat × Nat) := [(0, 21, 9), (0, 28, 8), (0, 35, 6), (1, 9, 7), (11, 7, 0), (11, 19, 1), (11, 26, 10), (11, 33, 5), (11, 40, 2), (11, 47, 3), (11, 54, 4), (13, 7, 11), (13, 10, 12)]
def zk_wCL : List Cond := zk_CL.map fun r => .classLink (zk_cn r.1) r.2.1 (zk_cn r.2.2)
def zk_wnew : List Cond := (List.range 13).map fun c => .instantiable (zk_cn c) (zk_nf c)
def zk_CT : List (Nat × Nat × Int) := [(14, 265, 1431655765), (14, 266, 858993459), (14, 267, 252645135), (3, 43, 1000000), (12, 124, 100000)]
def zk_wCT : List Cond := zk_CT.map fun r => .constant (zk_cn r.1) r.2.1 (Int32.ofInt r.2.2)
def zk_LT : List (Nat × Nat × Int) := [(7, 62, 1000000), (7, 64, -1000000), (12, 216, 28530), (12, 222, 28518), (12, 227, 29807), (12, 250, 1000000), (12, 252, -1000000), (12, 275, 99)]
def zk_wLT : List Cond := zk_LT.map fun r => .constantLong (zk_cn r.1) r.2.1 (Int64.ofInt r.2.2)
def zk_wetc : List Cond := [.arrayClass .int, .arrayClass .char, .arrayClass .long, .arrayClass .boolean, .native arraycopyName, .static arraycopyName, .instanceMethod Lib.objectInit, .code Lib.objectInit ⟨#[0xb1]⟩ 1 none]
def zk_wjdk : List Cond := [.fieldLink "java/lang/String" 38 "java/lang/String" "COMPACT_STRINGS" "Z", .fieldLink "java/lang/String" 15 "java/lang/String" "coder" "B", .fieldLink "java/lang/String" 9 "java/lang/String" "value" "[B", .fieldLink "java/lang/String" 1053 "jdk/internal/util/Preconditions" "SIOOBE_FORMATTER" "Ljava/util/function/BiFunction;"]
def zk_wcode0 : List Cond := zk_mt0.map fun r => .code (zk_yr r) r.2.2.2.1 r.2.2.2.2.1 r.2.2.2.2.2.1
set_option maxRecDepth 100000 in
theorem zk_gcode0 : GoodIn lw_tbl zk_wcode0 := goodIn_q _ [124, 1062, 664, 652, 672, 660, 714, 763, 786, 799, 809, 834, 213, 462, 732, 856, 719, 871, 878, 335, 893, 905, 909, 913, 919, 364, 927, 955, 935, 939, 947, 951, 387, 963, 975, 979, 983, 971, 988, 992] rfl (by decide +kernel)
def zk_wcode1 : List Cond := zk_mt1.map fun r => .code (zk_yr r) r.2.2.2.1 r.2.2.2.2.1 r.2.2.2.2.2.1
set_option maxRecDepth 100000 in
theorem zk_gcode1 : GoodIn lw_tbl zk_wcode1 := goodIn_q _ [1000, 299, 466, 567, 563, 630, 638, 634, 572, 584, 592, 604, 608, 611, 614, 618, 596, 600, 622, 159, 1075, 1008, 1020, 1034, 1038, 1026, 1030, 1049, 1053, 220, 470, 559, 860, 724, 826, 580, 588, 576, 626, 745] rfl (by decide +kernel)
def zk_wcode2 : List Cond := zk_mt2.map fun r => .code (zk_yr r) r.2.2.2.1 r.2.2.2.2.1 r.2.2.2.2.2.1
set_option maxRecDepth 100000 in
theorem zk_gcode2 : GoodIn lw_tbl zk_wcode2 := goodIn_q _ [751, 754, 759, 142, 1071, 695, 843, 130, 1066, 668, 706, 814, 776, 685, 728, 737, 681, 741, 676, 702, 767, 791, 772, 269, 446, 450, 474, 478, 482, 485, 541, 545, 489, 552, 555, 116, 438, 442, 454, 458] rfl (by decide +kernel)
def zk_wcode3 : List Cond := zk_mt3.map fun r => .code (zk_yr r) r.2.2.2.1 r.2.2.2.2.1 r.2.2.2.2.2.1
set_option maxRecDepth 100000 in
theorem zk_gcode3 : GoodIn lw_tbl zk_wcode3 := goodIn_q _ [644, 648, 656, 710, 782, 795, 805, 818, 822, 830, 839, 847, 866, 883, 889, 923, 959, 996, 1004, 1012, 1016, 1045, 1058, 1081, 1085, 1092, 1096, 1227, 1406, 1391, 1376, 1449, 1372, 1388, 1365, 1384, 1380, 1212, 1220, 1216] rfl (by decide +kernel)
def zk_wcode4 : List Cond := zk_mt4.map fun r => .code (zk_yr r) r.2.2.2.1 r.2.2.2.2.1 r.2.2.2.2.2.1
set_option maxRecDepth 100000 in
theorem zk_gcode4 : GoodIn lw_tbl zk_wcode4 := goodIn_q _ [1224, 1243, 1250, 1246, 1239, 1267, 1264, 1274, 1261, 1271, 1298, 1302, 1306, 1294, 1314, 1318, 1310, 1286, 1282, 1290, 1278, 1330, 1326, 1322, 1258, 1339, 1347, 1343, 1335, 1254, 1235, 1231, 1353, 1357, 1428, 1425, 1433, 1422, 1414, 1418] rfl (by decide +kernel)
def zk_wcode5 : List Cond := zk_mt5.map fun r => .code (zk_yr r) r.2.2.2.1 r.2.2.2.2.1 r.2.2.2.2.2.1
set_option maxRecDepth 100000 in
theorem zk_gcode5 : GoodIn lw_tbl zk_wcode5 := goodIn_q _ [1481, 1410, 1494, 1490, 1403, 1395, 1361, 1369, 1399, 1441, 1437, 1445, 1453, 1461, 1457, 1473, 1470, 1477, 1486, 1502, 1506, 1498, 1514, 1518, 1510, 1534, 1530, 1526, 1522, 1546, 1542, 1538, 1550, 1554, 1558, 1570, 1566, 1562, 1579, 1574] rfl (by decide +kernel)
def zk_wcode6 : List Cond := zk_mt6.map fun r => .code (zk_yr r) r.2.2.2.1 r.2.2.2.2.1 r.2.2.2.2.2.1
set_option maxRecDepth 100000 in
theorem zk_gcode6 : GoodIn lw_tbl zk_wcode6 := goodIn_q _ [1583, 1587, 1591, 1041, 688, 942, 748, 548, 494, 504, 498, 508, 514, 511, 519] rfl (by decide +kernel)
theorem zk_wcode_eq : zk_wcode = zk_wcode0 ++ zk_wcode1 ++ zk_wcode2 ++ zk_wcode3 ++ zk_wcode4 ++ zk_wcode5 ++ zk_wcode6 := by simp only [zk_wcode, zk_mtab, List.map_append, zk_wcode0, zk_wcode1, zk_wcode2, zk_wcode3, zk_wcode4, zk_wcode5, zk_wcode6]
theorem zk_gcode : GoodIn lw_tbl zk_wcode := by rw [zk_wcode_eq]; exact goodIn_ap (goodIn_ap (goodIn_ap (goodIn_ap (goodIn_ap (goodIn_ap (zk_gcode0) zk_gcode1) zk_gcode2) zk_gcode3) zk_gcode4) zk_gcode5) zk_gcode6
set_option maxRecDepth 100000 in
theorem zk_gkind : GoodIn lw_tbl zk_wkind := goodIn_q _ [123, 1060, 662, 650, 670, 658, 712, 761, 784, 797, 807, 832, 212, 460, 731, 854, 717, 869, 876, 334, 891, 903, 908, 912, 918, 363, 925, 953, 934, 938, 946, 950, 386, 961, 974, 978, 982, 969, 986, 991, 998, 298, 464, 566, 562, 629, 637, 633, 571, 583, 591, 603, 607, 610, 613, 617, 595, 599, 621, 158, 1073, 1006, 1018, 1033, 1037, 1024, 1029, 1047, 1052, 219, 468, 557, 858, 722, 824, 578, 586, 574, 624, 743, 750, 753, 758, 141, 1069, 693, 841, 129, 1064, 666, 704, 812, 774, 684, 726, 735, 679, 739, 674, 700, 765, 789, 771, 268, 444, 448, 472, 476, 481, 484, 540, 544, 488, 551, 554, 115, 436, 440, 452, 456, 642, 646, 654, 708, 780, 793, 803, 816, 821, 828, 837, 845, 864, 881, 887, 921, 957, 994, 1002, 1010, 1014, 1043, 1056, 1079, 1083, 1091, 1095, 1226, 1405, 1390, 1375, 1448, 1371, 1387, 1364, 1383, 1379, 1210, 1219, 1214, 1222, 1242, 1249, 1245, 1238, 1266, 1263, 1273, 1260, 1270, 1297, 1301, 1305, 1293, 1313, 1317, 1309, 1285, 1281, 1289, 1277, 1329, 1325, 1321, 1257, 1338, 1346, 1342, 1334, 1253, 1234, 1229, 1351, 1355, 1427, 1424, 1432, 1421, 1413, 1417, 1480, 1409, 1493, 1489, 1402, 1394, 1359, 1367, 1397, 1440, 1435, 1443, 1451, 1460, 1455, 1472, 1468, 1475, 1484, 1501, 1505, 1496, 1513, 1517, 1508, 1533, 1529, 1525, 1520, 1545, 1541, 1536, 1548, 1552, 1556, 1569, 1565, 1560, 1578, 1572, 1581, 1585, 1589, 1040, 687, 941, 747, 547, 492, 502, 496, 506, 513, 510, 518] (by decide +kernel) (by decide +kernel)
set_option maxRecDepth 100000 in
theorem zk_gsel : GoodIn lw_tbl zk_wsel := goodIn_q _ [1061, 663, 651, 671, 659, 713, 762, 785, 798, 808, 833, 461, 19, 855, 718, 870, 877, 892, 904, 22, 23, 24, 926, 954, 25, 26, 27, 28, 962, 29, 30, 31, 970, 987, 32, 999, 465, 5, 4, 15, 17, 16, 6, 7, 8, 11, 12, 13, 9, 10, 14, 1074, 1007, 1019, 34, 35, 1025, 33, 1048, 36, 469, 558, 859, 723, 825, 579, 587, 575, 625, 744, 1070, 694, 842, 1065, 667, 705, 813, 775, 18, 727, 736, 680, 740, 675, 701, 766, 790, 20, 445, 449, 473, 477, 0, 2, 1, 3, 437, 441, 453, 457, 643, 647, 655, 709, 781, 794, 804, 817, 21, 829, 838, 846, 865, 882, 888, 922, 958, 995, 1003, 1011, 1015, 1044, 1057, 1080, 1084, 63, 74, 66, 62, 65, 64, 1211, 37, 1215, 1223, 40, 39, 43, 49, 50, 51, 48, 53, 54, 52, 46, 45, 47, 44, 57, 56, 55, 42, 59, 61, 60, 58, 41, 38, 1230, 1352, 1356, 72, 70, 71, 76, 69, 78, 77, 68, 67, 1360, 1368, 1398, 73, 1436, 1444, 1452, 75, 1456, 1469, 1476, 1485, 79, 80, 1497, 81, 82, 1509, 85, 84, 83, 1521, 87, 86, 1537, 1549, 1553, 1557, 89, 88, 1561, 90, 1573, 1582, 1586, 1590, 493, 503, 497, 507] (by decide +kernel) (by decide +kernel)
set_option maxRecDepth 100000 in
theorem zk_gini : GoodIn lw_tbl zk_wini := goodIn_q _ [93, 97, 101, 102, 103, 100, 96, 98, 95, 94, 99, 92, 104, 91, 110, 109, 105, 106, 108, 111, 107] (by decide +kernel) (by decide +kernel)
set_option maxRecDepth 100000 in
theorem zk_gLK : GoodIn lw_tbl zk_wLK := goodIn_q _ [1063, 1068, 1072, 673, 686, 661, 665, 669, 692, 699, 715, 716, 764, 787, 788, 800, 801, 810, 811, 835, 725, 733, 734, 738, 720, 857, 729, 742, 861, 862, 721, 872, 873, 874, 894, 895, 896, 897, 898, 899, 900, 901, 906, 910, 916, 914, 915, 928, 929, 930, 932, 944, 936, 940, 948, 964, 965, 966, 967, 972, 976, 980, 984, 989, 467, 471, 556, 560, 568, 569, 627, 564, 631, 635, 639, 573, 581, 601, 623, 585, 589, 597, 593, 605, 612, 615, 619, 609, 1021, 1022, 1035, 1039, 1027, 1031, 1050, 1054, 577, 746, 749, 752, 757, 682, 677, 678, 703, 768, 769, 773, 777, 778, 475, 479, 483, 486, 539, 542, 549, 546, 491, 501, 553, 211, 443, 447, 459, 463, 649, 657, 711, 760, 783, 796, 806, 819, 823, 831, 840, 848, 849, 850, 851, 852, 853, 867, 868, 875, 879, 884, 885, 890, 902, 924, 952, 960, 968, 985, 997, 1005, 1017, 1023, 1046, 1059, 1077, 1086, 1087, 1094, 1225, 1385, 1381, 1389, 1217, 1240, 1244, 1248, 1265, 1262, 1295, 1272, 1259, 1236, 1303, 1311, 1315, 1299, 1283, 1291, 1279, 1287, 1307, 1268, 1275, 1327, 1323, 1336, 1344, 1340, 1255, 1319, 1332, 1251, 1232, 1426, 1423, 1431, 1411, 1415, 1419, 1404, 1478, 1491, 1407, 1362, 1370, 1373, 1377, 1392, 1400, 1438, 1446, 1462, 1463, 1464, 1465, 1466, 1458, 1471, 1487, 1499, 1503, 1511, 1515, 1531, 1523, 1527, 1543, 1539, 1567, 1563, 1575, 1576, 114, 1090, 435, 1209, 439, 1213, 451, 1221, 455, 1228, 641, 1350, 645, 1354, 653, 1366, 707, 1396, 779, 1434, 792, 1442, 802, 1450, 815, 1454, 827, 1467, 836, 1358, 844, 1474, 863, 1483, 880, 1495, 886, 1507, 920, 1519, 956, 1535, 993, 1547, 1001, 1551, 1009, 1555, 1013, 1559, 1042, 1571, 1055, 1580, 1078, 1584, 1082, 1588, 495, 505, 509, 517, 512, 529] (by decide +kernel) (by decide +kernel)
set_option maxRecDepth 100000 in
theorem zk_gAK : GoodIn lw_tbl zk_wAK := goodIn_q _ [943, 1076, 696, 1067] (by decide +kernel) (by decide +kernel)
set_option maxRecDepth 100000 in
theorem zk_gOK : GoodIn lw_tbl zk_wOK := goodIn_q _ [125, 214, 336, 365, 388, 300, 160, 221, 143, 131, 270, 117, 1093] (by decide +kernel) (by decide +kernel)
set_option maxRecDepth 100000 in
theorem zk_gFL : GoodIn lw_tbl zk_wFL := goodIn_q _ [178, 180, 183, 187, 192, 194, 255, 256, 257, 228, 230, 232, 234, 337, 339, 340, 341, 342, 343, 344, 188, 185, 366, 368, 369, 370, 371, 389, 391, 393, 394, 395, 396, 189, 184, 301, 303, 305, 306, 307, 308, 309, 310, 311, 275, 277, 279, 161, 162, 163, 164, 166, 181, 190, 222, 224, 225, 226, 227, 229, 231, 233, 235, 144, 145, 146, 133, 132, 271, 272, 274, 276, 278, 280, 410, 411, 412, 413, 414, 415, 416, 417, 179, 273, 182, 302, 304, 186, 223, 193, 191, 147, 338, 367, 392, 390, 195, 165, 1097, 1098, 1099, 1100, 1102, 1103, 1111, 1117, 1118, 1119, 1120, 1121, 1122, 1123, 1124, 1125, 1126, 1127, 1128, 1129, 1130, 1131, 1101, 1104, 1105, 1106, 1107, 1108, 1109, 1110, 1112, 1114, 1113, 1115, 1116] (by decide +kernel) (by decide +kernel)
set_option maxRecDepth 100000 in
theorem zk_glay : GoodIn lw_tbl zk_wlay := goodIn_q _ [196, 198, 200, 202, 204, 206, 258, 260, 262, 345, 347, 349, 351, 353, 355, 357, 372, 374, 376, 378, 380, 397, 399, 401, 403, 405, 407, 312, 314, 316, 318, 320, 322, 324, 326, 328, 167, 169, 171, 173, 175, 236, 238, 240, 242, 244, 246, 248, 250, 252, 148, 150, 152, 134, 281, 283, 285, 287, 289, 291, 418, 420, 422, 424, 426, 428, 430, 432, 1132, 1134, 1136, 1138, 1140, 1142, 1144, 1146, 1148, 1150, 1152, 1154, 1156, 1158, 1160, 1162, 1164, 1166, 1168, 1170, 1172, 1174, 1176, 1178, 1180, 1182, 1184, 1186, 1188, 1190, 1192, 1194, 1196, 1198, 1200, 1202, 1204] (by decide +kernel) (by decide +kernel)
set_option maxRecDepth 100000 in
theorem zk_gCL : GoodIn lw_tbl zk_wCL := goodIn_q _ [126, 138, 155, 215, 120, 209, 265, 295, 331, 360, 383, 112, 1088] (by decide +kernel) (by decide +kernel)
set_option maxRecDepth 100000 in
theorem zk_gnew : GoodIn lw_tbl zk_wnew := goodIn_q _ [121, 210, 332, 361, 384, 296, 156, 217, 139, 127, 266, 113, 1089] (by decide +kernel) (by decide +kernel)
set_option maxRecDepth 100000 in
theorem zk_gCT : GoodIn lw_tbl zk_wCT := goodIn_q _ [689, 690, 691, 931, 1247] (by decide +kernel) (by decide +kernel)
set_option maxRecDepth 100000 in
theorem zk_gLT : GoodIn lw_tbl zk_wLT := goodIn_q _ [755, 756, 1331, 1348, 1349, 1429, 1430, 1482] (by decide +kernel) (by decide +kernel)
set_option maxRecDepth 100000 in
theorem zk_getc : GoodIn lw_tbl zk_wetc := goodIn_q _ [137, 294, 1207, 1208, 698, 697, 118, 119] (by decide +kernel) (by decide +kernel)
set_option maxRecDepth 100000 in
theorem zk_gjdk : GoodIn lw_tbl zk_wjdk := goodIn_q _ [499, 1593, 1592, 515] (by decide +kernel) (by decide +kernel)
def zk_gT : List Cond := zk_wcode ++ (zk_wkind ++ (zk_wsel ++ (zk_wini ++ (zk_wLK ++ (zk_wAK ++ (zk_wOK ++ (zk_wFL ++ (zk_wlay ++ (zk_wCL ++ (zk_wnew ++ (zk_wCT ++ (zk_wLT ++ (zk_wetc ++ (zk_wjdk))))))))))))))
theorem zk_gT_good : GoodIn lw_tbl zk_gT := goodIn_ap zk_gcode (goodIn_ap zk_gkind (goodIn_ap zk_gsel (goodIn_ap zk_gini (goodIn_ap zk_gLK (goodIn_ap zk_gAK (goodIn_ap zk_gOK (goodIn_ap zk_gFL (goodIn_ap zk_glay (goodIn_ap zk_gCL (goodIn_ap zk_gnew (goodIn_ap zk_gCT (goodIn_ap zk_gLT (goodIn_ap zk_getc (zk_gjdk))))))))))))))
end
section
/-! whole numbers for ints and longs: within their range -/
def zk_I (x : Int) : Int32 := Int32.ofInt x
def zk_J (x : Int) : Int64 := Int64.ofInt x
def zk_rI (x : Int) : Prop := -2147483648 ≤ x ∧ x ≤ 2147483647
def zk_rJ (x : Int) : Prop := -9223372036854775808 ≤ x ∧ x ≤ 9223372036854775807
theorem zk_bm {x : Int} (h : zk_rI x) : x.bmod 4294967296 = x := Int.bmod_eq_of_le (by have := h.1; omega) (by have := h.2; omega)
theorem zk_bmJ {x : Int} (h : zk_rJ x) : x.bmod 18446744073709551616 = x := Int.bmod_eq_of_le (by have := h.1; omega) (by have := h.2; omega)
theorem zk_I_toInt {x : Int} (h : zk_rI x) : (zk_I x).toInt = x := by
  unfold zk_I
  rw [Int32.toInt_ofInt]
  exact zk_bm h
theorem zk_J_toInt {x : Int} (h : zk_rJ x) : (zk_J x).toInt = x := by
  unfold zk_J
  rw [Int64.toInt_ofInt]
  exact zk_bmJ h
theorem zk_rI_of (x : Int32) : zk_rI x.toInt := by
  have h1 := Int32.le_toInt x
  have h2 := Int32.toInt_lt x
  unfold zk_rI
  omega
theorem zk_rJ_of (x : Int64) : zk_rJ x.toInt := by
  have h1 := Int64.le_toInt x
  have h2 := Int64.toInt_lt x
  unfold zk_rJ
  omega
theorem zk_I_of (x : Int32) : zk_I x.toInt = x := Int32.ofInt_toInt x
theorem zk_J_of (x : Int64) : zk_J x.toInt = x := Int64.ofInt_toInt x
theorem zk_I_eq {x : Int} {y : Int32} (h : y.toInt = x) : y = zk_I x := by rw [← h, zk_I_of]
theorem zk_J_eq {x : Int} {y : Int64} (h : y.toInt = x) : y = zk_J x := by rw [← h, zk_J_of]
theorem zk_I_add (x y : Int) : zk_I x + zk_I y = zk_I (x + y) := (Int32.ofInt_add x y).symm
theorem zk_I_sub (x y : Int) : zk_I x - zk_I y = zk_I (x - y) := (Int32.ofInt_sub x y).symm
theorem zk_I_mul (x y : Int) : zk_I x * zk_I y = zk_I (x * y) := (Int32.ofInt_mul x y).symm
theorem zk_I_neg (x : Int) : - zk_I x = zk_I (-x) := (Int32.ofInt_neg x).symm
theorem zk_J_add (x y : Int) : zk_J x + zk_J y = zk_J (x + y) := (Int64.ofInt_add x y).symm
theorem zk_J_sub (x y : Int) : zk_J x - zk_J y = zk_J (x - y) := (Int64.ofInt_sub x y).symm
theorem zk_J_mul (x y : Int) : zk_J x * zk_J y = zk_J (x * y) := (Int64.ofInt_mul x y).symm
theorem zk_J_neg (x : Int) : - zk_J x = zk_J (-x) := (Int64.ofInt_neg x).symm
theorem zk_I_lt {x y : Int} (hx : zk_rI x) (hy : zk_rI y) : zk_I x < zk_I y ↔ x < y := by
  rw [Int32.lt_iff_toInt_lt, zk_I_toInt hx, zk_I_toInt hy]
theorem zk_I_le {x y : Int} (hx : zk_rI x) (hy : zk_rI y) : zk_I x ≤ zk_I y ↔ x ≤ y := by
  rw [Int32.le_iff_toInt_le, zk_I_toInt hx, zk_I_toInt hy]
theorem zk_I_inj {x y : Int} (hx : zk_rI x) (hy : zk_rI y) : zk_I x = zk_I y ↔ x = y := by
  rw [← Int32.toInt_inj, zk_I_toInt hx, zk_I_toInt hy]
theorem zk_J_lt {x y : Int} (hx : zk_rJ x) (hy : zk_rJ y) : zk_J x < zk_J y ↔ x < y := by
  rw [Int64.lt_iff_toInt_lt, zk_J_toInt hx, zk_J_toInt hy]
theorem zk_J_inj {x y : Int} (hx : zk_rJ x) (hy : zk_rJ y) : zk_J x = zk_J y ↔ x = y := by
  rw [← Int64.toInt_inj, zk_J_toInt hx, zk_J_toInt hy]
theorem zk_I_0 : zk_I 0 = 0 := rfl
theorem zk_J_0 : zk_J 0 = 0 := rfl
theorem zk_r0 : zk_rI 0 := by unfold zk_rI; omega
theorem zk_rJ0 : zk_rJ 0 := by unfold zk_rJ; omega
theorem zk_rIJ {x : Int} (h : zk_rI x) : zk_rJ x := by unfold zk_rI at h; unfold zk_rJ; omega
theorem zk_I_div {x y : Int} (hx : zk_rI x) (hy : zk_rI y) (hq : zk_rI (x.tdiv y)) : zk_I x / zk_I y = zk_I (x.tdiv y) := by
  apply zk_I_eq
  rw [Int32.toInt_div, zk_I_toInt hx, zk_I_toInt hy]
  exact zk_bm hq
theorem zk_J_div {x y : Int} (hx : zk_rJ x) (hy : zk_rJ y) (hq : zk_rJ (x.tdiv y)) : zk_J x / zk_J y = zk_J (x.tdiv y) := by
  apply zk_J_eq
  rw [Int64.toInt_div, zk_J_toInt hx, zk_J_toInt hy]
  exact zk_bmJ hq
theorem zk_I_rem {x y : Int} (hx : zk_rI x) (hy : zk_rI y) (hq : zk_rI (x.tdiv y)) : zk_I x - zk_I x / zk_I y * zk_I y = zk_I (x.tmod y) := by
  rw [zk_I_div hx hy hq, zk_I_mul, zk_I_sub, Int.tmod_def, Int.mul_comm y]
theorem zk_ilong {x : Int} (hx : zk_rI x) : (zk_I x).toInt64 = zk_J x := by
  apply zk_J_eq
  rw [Int32.toInt_toInt64, zk_I_toInt hx]
theorem zk_lint {x : Int} (hx : zk_rI x) : (zk_J x).toInt32 = zk_I x := by
  apply zk_I_eq
  rw [Int64.toInt_toInt32, zk_J_toInt (zk_rIJ hx)]
  exact zk_bm hx
theorem zk_clamp {i : Int} (h0 : 0 ≤ i) (h : zk_rI i) : (zk_I i).toNatClampNeg = i.toNat := by
  show (zk_I i).toInt.toNat = i.toNat
  rw [zk_I_toInt h]
/-! the bits, by the machine's own words -/
def zk_and (x y : Int) : Int := (zk_I x &&& zk_I y).toInt
def zk_or (x y : Int) : Int := (zk_I x ||| zk_I y).toInt
def zk_xor (x y : Int) : Int := (zk_I x ^^^ zk_I y).toInt
def zk_shl (x y : Int) : Int := (zk_I x <<< (zk_I y &&& 31)).toInt
def zk_shr (x y : Int) : Int := (zk_I x >>> (zk_I y &&& 31)).toInt
def zk_ushr (x y : Int) : Int := ((zk_I x).toUInt32 >>> ((zk_I y).toUInt32 &&& Int32.toUInt32 31)).toInt32.toInt
def zk_lor (x y : Int) : Int := (zk_J x ||| zk_J y).toInt
def zk_lshl (x y : Int) : Int := (zk_J x <<< ((zk_I y).toInt64 &&& 63)).toInt
def zk_cmp (x y : Int) : Int := if x < y then -1 else if x = y then 0 else 1
theorem zk_cmp_eq {x y : Int} (hx : zk_rJ x) (hy : zk_rJ y) : lg_cmp (zk_J x) (zk_J y) = zk_I (zk_cmp x y) := by
  unfold lg_cmp zk_cmp
  by_cases h1 : x < y
  · have h2 := (zk_J_lt hx hy).mpr h1
    have h3 : ¬ zk_J x > zk_J y := fun h => by
      have := (zk_J_lt hy hx).mp h
      omega
    have h4 : ¬ zk_J x = zk_J y := fun h => by
      have := (zk_J_inj hx hy).mp h
      omega
    simp [h1, h2, h3, h4]
    rfl
  · by_cases h2 : x = y
    · subst h2
      simp
      rfl
    · have h3 : y < x := by omega
      have h4 := (zk_J_lt hy hx).mpr h3
      have h5 : ¬ zk_J x < zk_J y := fun h => h1 ((zk_J_lt hx hy).mp h)
      have h6 : ¬ zk_J x = zk_J y := fun h => h2 ((zk_J_inj hx hy).mp h)
      simp [h1, h2, h4, h5, h6]
      rfl
theorem zk_rI_cmp (x y : Int) : zk_rI (zk_cmp x y) := by
  unfold zk_cmp zk_rI
  split
  · omega
  · split <;> omega
end
section
/-! the state: cells 1 .. 80 in the order in which they are made; 0 is null. Shapes: below 13 an object of that class, 100 int[], 101 long[], 102 boolean[], 103 char[], 104 Script[] -/
abbrev zk_V : Type := Int ⊕ (Int ⊕ (Nat ⊕ Nat))
abbrev zk_M : Type := Nat → Int → Int
abbrev zk_F : Type := Nat → Int → Nat
abbrev zk_S : Type := Nat × zk_F × zk_M
/-- the base, the script's address, the text's and its bytes', the classes' numbers, their slots, the arrays' classes, the script (its length at -1) -/
abbrev zk_G : Type := Nat × Nat × Nat × Nat × (Nat → ClassId) × (Nat → Nat → Nat) × (Nat → ClassId) × (Int → Int)
def zk_shL : List (Nat × Nat) := [(99, 0), (11, 8), (0, 6), (9, 1), (100, 32), (8, 3), (100, 960), (6, 5), (100, 12), (100, 12), (100, 12), (100, 24), (0, 6), (9, 1), (100, 32), (8, 3), (100, 960), (6, 5), (100, 12), (100, 12), (100, 12), (100, 24), (1, 3), (104, 4), (100, 5), (100, 6), (7, 9), (100, 96), (100, 300), (100, 32), (7, 9), (100, 96), (100, 300), (100, 32), (7, 9), (100, 96), (100, 300), (100, 32), (7, 9), (100, 96), (100, 300), (100, 32), (10, 6), (103, 300), (5, 9), (100, 32), (2, 7), (100, 12), (100, 12), (100, 12), (100, 6), (100, 6), (3, 5), (100, 6), (100, 6), (100, 6), (4, 6), (100, 8), (100, 6), (100, 256), (12, 37), (100, 2026), (100, 2026), (100, 2720), (100, 300), (100, 160), (100, 5), (101, 330), (102, 330), (100, 6), (100, 6), (100, 12), (100, 12), (100, 12), (100, 6), (100, 6), (100, 256), (100, 256), (100, 256), (100, 5), (100, 5)]
def zk_sh (k : Nat) : Nat := (zk_shL.getD k (99, 0)).1
def zk_sz (k : Nat) : Nat := (zk_shL.getD k (99, 0)).2
def zk_szI (k : Nat) : Int := (zk_sz k : Int)
def zk_ftL : List (List Nat) := [[0, 0, 0, 3, 3, 3], [3, 3, 3], [0, 0, 3, 3, 3, 3, 3], [0, 0, 3, 3, 3], [0, 0, 0, 3, 3, 3], [0, 0, 2, 2, 3, 0, 0, 0, 2], [3, 3, 3, 0, 3], [0, 3, 3, 0, 0, 0, 0, 0, 3], [3, 0, 0], [3], [3, 0, 0, 0, 0, 0], [3, 3, 3, 3, 3, 3, 3, 3], [3, 3, 3, 3, 0, 0, 0, 0, 0, 0, 0, 1, 0, 0, 0, 0, 3, 0, 0, 2, 0, 0, 3, 3, 3, 3, 3, 3, 3, 3, 3, 3, 3, 3, 3, 3, 3]]
def zk_ft (c i : Nat) : Nat := (zk_ftL.getD c []).getD i 0
def zk_SZ (n : Nat) : Nat := ((zk_shL.take (n + 1)).map fun q => q.2).sum
def zk_alL : List (Nat × Nat × Nat) := [(0, 9, 1061), (12, 19, 1763), (19, 5, 48), (25, 3, 18), (32, 3, 270), (41, 1, 32), (59, 4, 60), (69, 3, 428), (83, 1, 960), (87, 1, 32), (103, 1, 300), (115, 58, 4601), (145, 20, 8735), (255, 80, 13381)]
def zk_mc (i : Nat) : Nat := ((zk_alL.lookup i).getD (0, 0)).1
def zk_ms (i : Nat) : Nat := ((zk_alL.lookup i).getD (0, 0)).2
def zk_wordsL : List Int32 := [119, 101, 105, 103, 104, 115, 32, 103, 111, 101, 115, 32, 118, 111, 119, 32, 112, 97, 115, 115, 32, 102, 111, 114, 103, 105, 118, 101, 32, 119, 97, 105, 116, 32, 111, 102, 32, 116, 111, 32, 111, 114, 32, 97, 110, 100, 32, 110, 111, 116, 32, 107, 105, 110, 100, 32, 97, 103, 101, 32, 115, 105, 115, 116, 101, 114, 32, 115, 116, 111, 110, 101, 32, 115, 105, 110, 32]
def zk_words : String := "weighs goes vow pass forgive wait of to or and not kind age sister stone sin "
def zk_nst : List (Nat × Nat × Nat × String) := [(11, 9, 0, "VeilOfStones"), (0, 23, 87, "VeilOfStones"), (0, 30, 83, "VeilOfStones"), (0, 37, 59, "VeilOfStones"), (1, 24, 69, "VeilOfStones"), (11, 28, 103, "VeilOfStones"), (11, 35, 41, "VeilOfStones"), (11, 42, 19, "VeilOfStones"), (11, 49, 25, "VeilOfStones"), (11, 56, 32, "VeilOfStones")]
def zk_rhoL : List (List Nat) := [[], [2, 12, 22, 42, 44, 46, 52, 56], [0, 0, 0, 3, 5, 7], [4], [], [6], [], [8, 9, 10, 0, 11], [], [], [], [], [0, 0, 0, 13, 15, 17], [14], [], [16], [], [18, 19, 20, 0, 21], [], [], [], [], [23, 24, 25], [26, 30, 34, 38], [], [], [0, 27, 28, 0, 0, 0, 0, 0, 29], [], [], [], [0, 31, 32, 0, 0, 0, 0, 0, 33], [], [], [], [0, 35, 36, 0, 0, 0, 0, 0, 37], [], [], [], [0, 39, 40, 0, 0, 0, 0, 0, 41], [], [], [], [43], [], [0, 0, 0, 0, 45], [], [0, 0, 47, 48, 49, 50, 51], [], [], [], [], [], [0, 0, 53, 54, 55], [], [], [], [0, 0, 0, 57, 58, 59], [], [], [], [61, 62, 63, 64, 0, 0, 0, 0, 0, 0, 0, 0, 0, 0, 0, 0, 65, 0, 0, 0, 0, 0, 66, 67, 68, 69, 70, 71, 72, 73, 74, 75, 76, 77, 78, 79, 80], [], [], [], [], [], [], [], [], [], [], [], [], [], [], [], [], [], [], [], []]
def zk_rho : zk_F := fun k i => if 0 ≤ i then (zk_rhoL.getD k []).getD i.toNat 0 else 0
def zk_a0 (g : zk_G) : Nat := g.1
def zk_bs (g : zk_G) : Nat := g.2.1
def zk_tx (g : zk_G) : Nat := g.2.2.1
def zk_tv (g : zk_G) : Nat := g.2.2.2.1
def zk_D (g : zk_G) : va_G := (g.2.2.2.2.1, g.2.2.2.2.2.1)
def zk_aC (g : zk_G) : Nat → ClassId := g.2.2.2.2.2.2.1
def zk_sx (g : zk_G) : Int → Int := g.2.2.2.2.2.2.2
def zk_A (g : zk_G) : Nat → Prop := fun q => zk_a0 g < q
def zk_encR (g : zk_G) (r : Nat) : Value := match r with
  | 0 => .null
  | k + 1 => .ref (zk_a0 g + (k + 1))
def zk_optR (g : zk_G) (r : Nat) : Option Nat := match r with
  | 0 => none
  | k + 1 => some (zk_a0 g + (k + 1))
def zk_enc (g : zk_G) (v : zk_V) : Value := match v with
  | .inl x => .int (zk_I x)
  | .inr (.inl x) => .long (zk_J x)
  | .inr (.inr (.inl r)) => zk_encR g r
  | .inr (.inr (.inr n)) => .ref (if n = 1 then zk_tx g else zk_bs g)
def zk_encF (g : zk_G) (t r : Nat) (x : Int) : Value := match t with
  | 1 => .long (zk_J x)
  | 3 => zk_encR g r
  | _ => .int (zk_I x)
def zk_fs (g : zk_G) (S : zk_S) (k : Nat) : List Value := (List.range (zk_nf (zk_sh k))).map fun i => zk_encF g (zk_ft (zk_sh k) i) (S.2.1 k (i : Int)) (S.2.2 k (i : Int))
def zk_ar (g : zk_G) (S : zk_S) (k : Nat) : (Nat → Int32) ⊕ (Nat → Int64) ⊕ (Nat → UInt32) ⊕ (Nat → UInt64) ⊕ (Nat → Option Nat) := match zk_sh k with
  | 101 => .inr (.inl fun j => zk_J (S.2.2 k (j : Int)))
  | 104 => .inr (.inr (.inr (.inr fun j => zk_optR g (S.2.1 k (j : Int)))))
  | _ => .inl fun j => zk_I (S.2.2 k (j : Int))
def zk_encC (g : zk_G) (S : zk_S) (k : Nat) : va_E := if zk_sh k < 13 then .inr (zk_sh k, zk_fs g S k) else .inl (zk_aC g (zk_sh k), zk_sz k, zk_ar g S k)
def zk_tys (g : zk_G) : List (ClassId × FieldType) := [(zk_aC g 100, .int), (zk_aC g 101, .long), (zk_aC g 102, .boolean), (zk_aC g 103, .char), (zk_aC g 104, .object "VeilOfStones$Script")]
def zk_Kn (g : zk_G) (U : State) : Prop := va_K (zk_D g) zk_cl (zk_tys g) U
def zk_lg (k : Nat) (i : Int) : Bool := zk_sh k == 101 || zk_ft (zk_sh k) i.toNat == 1
def zk_MG (S : zk_S) : Prop := ∀ (k : Nat) (i : Int), zk_rJ (S.2.2 k i) ∧ (zk_lg k i = false → zk_rI (S.2.2 k i))
/-- the heap holds the state -/
def zk_RH (g : zk_G) (S : zk_S) (H : Heap) : Prop := (S.1 < 80 → H.size = zk_a0 g + 1 + S.1) ∧ S.1 ≤ 80 ∧ (∀ k, 1 ≤ k → k ≤ S.1 → va_at (zk_D g) zk_cl (zk_a0 g + k, zk_encC g S k) H) ∧ ∀ i, S.2.2 0 i = zk_sx g i
/-- what was there before the law -/
def zk_Od (g : zk_G) (U : State) (H : Heap) : Prop :=
  vk_S 1 [77] [zk_wordsL] (fun _ => zk_tx g) (fun _ => zk_tv g) (zk_A g) U H ∧ va_Z "java/lang/String" "COMPACT_STRINGS" "Z" (.int 1) (zk_A g) U H ∧ va_Zq "jdk/internal/util/Preconditions" "SIOOBE_FORMATTER" "Ljava/util/function/BiFunction;" (zk_A g) U H ∧ va_AO "VeilOfStones$Script" U
  ∧ (0 ≤ zk_sx g (-1) ∧ zk_sx g (-1) ≤ 3072 ∧ va_T .int (zk_bs g) (zk_sx g (-1)).toNat (fun j => .int (zk_I (zk_sx g (j : Int)))) (zk_A g) U H)
def zk_Ow (g : zk_G) (U : State) : Prop := vk_R "VeilOfStones$Tape" 60 zk_words (zk_tx g) U ∧ ∀ q ∈ zk_nst, va_Nw (.methodLinkNest (zk_cn q.1) q.2.1 (zk_yn q.2.2.1) q.2.2.2) U
theorem zk_Od.moved {g : zk_G} {u U : State} {H : Heap} (hvm : u.vm.Alike U.vm) (h : zk_Od g u H) : zk_Od g U H :=
  ⟨vk_S.moved hvm h.1, va_Z.moved hvm h.2.1, va_Zq.moved hvm h.2.2.1, va_AO.moved hvm h.2.2.2.1, h.2.2.2.2.1, h.2.2.2.2.2.1, va_T.moved hvm h.2.2.2.2.2.2⟩
theorem zk_Od.kept {g : zk_G} {U : State} {H H1 : Heap} (h : zk_Od g U H) (hq : ∀ a : Nat, a < H.size → ¬ zk_A g a → H1[a]? = H[a]?) : zk_Od g U H1 :=
  ⟨h.1.kept hq, h.2.1.kept hq, h.2.2.1.kept hq, h.2.2.2.1, h.2.2.2.2.1, h.2.2.2.2.2.1, h.2.2.2.2.2.2.kept hq⟩
theorem zk_Ow.warm {g : zk_G} {s U : State} (hW : s.WarmedH U.vm) (h : zk_Ow g s) : zk_Ow g U := ⟨h.1.warm hW, fun q hq => va_Nw.warmM hW (h.2 q hq)⟩
theorem zk_Ow.same {g : zk_G} {u U : State} (hv : U.vm = u.vm) (h : zk_Ow g u) : zk_Ow g U := ⟨h.1.same hv, fun q hq => va_Nw.same rfl hv.symm (h.2 q hq)⟩
def zk_okV (v : zk_V) : Prop := match v with
  | .inl x => zk_rI x
  | .inr (.inl x) => zk_rJ x
  | _ => True
def zk_okL (l : List zk_V) : Prop := ∀ v ∈ l, zk_okV v
def zk_real (v : zk_V) : Bool := match v with
  | .inr (.inr (.inr 0)) => false
  | _ => true
def zk_LR (g : zk_G) (la : Array Slot) (n : Nat) (ls : List zk_V) : Prop := la.size = n ∧ lv_wf la ∧ ∀ (i : Nat) (v : zk_V), ls[i]? = some v → zk_real v = true → la[i]? = some (.val (zk_enc g v))
/-- the frame's own facts -/
def zk_Cx (g : zk_G) (mid : Nat) (p : Program) (R : Room) (s : State) (m : MethodId) (args : Array Value) (meth : Method) (c : Code) : Prop :=
  p.tables.exec = Jvm.exec ∧ c.code = zk_cc mid ∧ c.maxLocals = zk_mL mid ∧ s.vm.findClass (zk_cn (zk_own mid)) = some m.cls ∧ (∀ w ∈ zk_gT, w.before args s = true) ∧ zk_Kn g s ∧ zk_Od g s s.heap ∧ zk_Ow g s ∧ zk_fr mid ≤ R.frames ∧ zk_lo mid ≤ R.locals ∧ zk_mc mid ≤ R.cells ∧ zk_ms mid ≤ R.slots ∧ (zk_kd mid = 2 → meth.name = "<init>") ∧ zk_a0 g + 1 ≤ s.heap.size
def zk_rets (mid pc : Nat) (v : Option zk_V) : Prop := match v with
  | none => decode (zk_cc mid) pc = .ok (.return_, 1) ∧ zk_rt mid = none
  | some (.inl x) => decode (zk_cc mid) pc = .ok (.ireturn, 1) ∧ ∃ ty, zk_rt mid = some ty ∧ narrow ty (.int (zk_I x)) = .int (zk_I x)
  | some (.inr (.inl _)) => decode (zk_cc mid) pc = .ok (.lreturn, 1) ∧ zk_rt mid = some .long
  | some (.inr (.inr (.inl _))) => decode (zk_cc mid) pc = .ok (.areturn, 1) ∧ ∃ nm, zk_rt mid = some (.object nm)
  | _ => False
/-- the room used since the entry, at which N1 cells were made -/
def zk_cs (N1 : Nat) (S : zk_S) (cells slots : Nat) : Prop := cells + N1 ≤ S.1 ∧ slots + zk_SZ N1 ≤ zk_SZ S.1
/-- from here the frame comes to its end, with Q -/
def zk_Ok (mid N1 pc : Nat) (ls st : List zk_V) (S : zk_S) (Q : Option zk_V → zk_S → Prop) : Prop :=
  ∀ (g : zk_G) (p : Program) (l : Launch) (e : Env) (R : Room) (s : State) (m : MethodId) (args : Array Value) (below : List Frame) (meth : Method) (c : Code) (Z : State → Prop),
    zk_Cx g mid p R s m args meth c →
    (∀ (v : Option zk_V) (S' : zk_S) (H : Heap) (locs : List Loc) (cells slots pc' : Nat) (la : Array Slot), Q v S' → (∀ x, v = some x → zk_okV x) → zk_rets mid pc' v → zk_RH g S' H → zk_MG S' → va_S (zk_A g) s.heap H locs → zk_cs N1 S' cells slots →
      S'.1 = N1 + zk_mc mid → zk_SZ S'.1 = zk_SZ N1 + zk_ms mid → W p l e R s m args below meth c H locs cells slots Z (F0 m pc' la (v.toList.map (zk_enc g)))) →
    ∀ (H : Heap) (locs : List Loc) (cells slots : Nat) (la : Array Slot), zk_LR g la (zk_mL mid) ls → zk_okL ls → zk_okL st → zk_RH g S H → zk_MG S → va_S (zk_A g) s.heap H locs → zk_cs N1 S cells slots →
      W p l e R s m args below meth c H locs cells slots Z (F0 m pc la (st.map (zk_enc g)))
def zk_Pc (g : zk_G) (as : List zk_V) (S : zk_S) : Array Value → State → Prop := fun v U => v = (as.map (zk_enc g)).toArray ∧ zk_okL as ∧ zk_RH g S U.heap ∧ zk_MG S ∧ zk_Kn g U ∧ zk_Od g U U.heap ∧ zk_Ow g U ∧ zk_a0 g + 1 ≤ U.heap.size
def zk_Qc (g : zk_G) (mid : Nat) (S : zk_S) (Q : Option zk_V → zk_S → Prop) : Array Value → State → Outcome → State → Prop := fun _ st oc t =>
  (∃ (v : Option zk_V) (S' : zk_S), oc = .returned (v.map (zk_enc g)) ∧ (∀ x, v = some x → zk_okV x) ∧ Q v S' ∧ zk_RH g S' t.heap ∧ zk_MG S' ∧ S'.1 = S.1 + zk_mc mid ∧ zk_SZ S'.1 = zk_SZ S.1 + zk_ms mid) ∧ va_F (zk_A g) st t
def zk_ws (mid : Nat) : List Cond := .code (zk_yn mid) (zk_cc mid) (zk_mL mid) (zk_rt mid) :: zk_gT
def zk_rm (mid : Nat) : Room := { frames := zk_fr mid, cells := zk_mc mid, slots := zk_ms mid, locals := zk_lo mid }
/-- a method's contract: from the state S, with these arguments -/
def zk_Ct (mid : Nat) (as : List zk_V) (S : zk_S) (Q : Option zk_V → zk_S → Prop) : Prop :=
  ∀ (l : Launch) (g : zk_G), Met l (zk_yn mid) (zk_ws mid) (zk_rm mid) (zk_Pc g as S) (zk_Qc g mid S Q) (zk_mc mid) (zk_ms mid) (zk_A g)
end
section
/-! a rule an instruction: what keeps the memory as it is -/
theorem zk_ok_c {v : zk_V} {st : List zk_V} : zk_okL (v :: st) ↔ zk_okV v ∧ zk_okL st := by simp [zk_okL]
theorem zk_ok_n : zk_okL [] := fun v h => by cases h
theorem zk_go {mid N1 pc pc' : Nat} {ls st st' : List zk_V} {S : zk_S} {Q : Option zk_V → zk_S → Prop} (k : zk_Ok mid N1 pc' ls st' S Q) (hok : zk_okL ls → zk_okL st → zk_MG S → zk_okL st')
    (hw : ∀ (g : zk_G) (p : Program) (l : Launch) (e : Env) (R : Room) (s : State) (m : MethodId) (args : Array Value) (below : List Frame) (meth : Method) (c : Code) (H : Heap) (locs : List Loc) (cells slots : Nat) (Z : State → Prop) (la : Array Slot), zk_Cx g mid p R s m args meth c → zk_LR g la (zk_mL mid) ls → zk_okL ls → zk_okL st → zk_RH g S H → zk_MG S → va_S (zk_A g) s.heap H locs →
      W p l e R s m args below meth c H locs cells slots Z (F0 m pc' la (st'.map (zk_enc g))) → W p l e R s m args below meth c H locs cells slots Z (F0 m pc la (st.map (zk_enc g)))) : zk_Ok mid N1 pc ls st S Q := by
  intro g p l e R s m args below meth c Z C hr H locs cells slots la hl h1 h2 hR hM hS hc
  exact hw g p l e R s m args below meth c H locs cells slots Z la C hl h1 h2 hR hM hS (k g p l e R s m args below meth c Z C hr H locs cells slots la hl h1 (hok h1 h2 hM) hR hM hS hc)
section zk_rules
variable {mid N1 pc : Nat} {ls st : List zk_V} {S : zk_S} {Q : Option zk_V → zk_S → Prop}
theorem zk_r_iconst {n : Int} (hd : decode (zk_cc mid) pc = .ok (.iconst n, 1)) (hr : zk_rI n) (k : zk_Ok mid N1 (pc + 1) ls (.inl n :: st) S Q) : zk_Ok mid N1 pc ls st S Q :=
  zk_go k (fun _ h _ => zk_ok_c.mpr ⟨hr, h⟩) (fun g p l e R s m args below meth c H locs cells slots Z la C hl h1 h2 _ _ _ w => lv_iconst C.1 C.2.1 hd rfl w)
theorem zk_r_bipush {n : Int} (hd : decode (zk_cc mid) pc = .ok (.bipush n, 2)) (he : (Int8.ofInt n).toInt32 = zk_I n) (hr : zk_rI n) (k : zk_Ok mid N1 (pc + 2) ls (.inl n :: st) S Q) : zk_Ok mid N1 pc ls st S Q :=
  zk_go k (fun _ h _ => zk_ok_c.mpr ⟨hr, h⟩) (fun g p l e R s m args below meth c H locs cells slots Z la C hl h1 h2 _ _ _ w => lv_bipush C.1 C.2.1 hd he w)
theorem zk_r_sipush {n : Int} (hd : decode (zk_cc mid) pc = .ok (.sipush n, 3)) (he : (Int16.ofInt n).toInt32 = zk_I n) (hr : zk_rI n) (k : zk_Ok mid N1 (pc + 3) ls (.inl n :: st) S Q) : zk_Ok mid N1 pc ls st S Q :=
  zk_go k (fun _ h _ => zk_ok_c.mpr ⟨hr, h⟩) (fun g p l e R s m args below meth c H locs cells slots Z la C hl h1 h2 _ _ _ w => lv_sipush C.1 C.2.1 hd he w)
theorem zk_r_lconst {n : Fin 2} (hd : decode (zk_cc mid) pc = .ok (.lconst n, 1)) (he : Int64.ofNat (n : Nat) = zk_J (n : Nat)) (hr : zk_rJ ((n : Nat) : Int)) (k : zk_Ok mid N1 (pc + 1) ls (.inr (.inl ((n : Nat) : Int)) :: st) S Q) : zk_Ok mid N1 pc ls st S Q :=
  zk_go k (fun _ h _ => zk_ok_c.mpr ⟨hr, h⟩) (fun g p l e R s m args below meth c H locs cells slots Z la C hl h1 h2 _ _ _ w => lv_lconst C.1 C.2.1 hd he w)
theorem zk_r_null (hd : decode (zk_cc mid) pc = .ok (.aconst_null, 1)) (k : zk_Ok mid N1 (pc + 1) ls (.inr (.inr (.inl 0)) :: st) S Q) : zk_Ok mid N1 pc ls st S Q :=
  zk_go k (fun _ h _ => zk_ok_c.mpr ⟨trivial, h⟩) (fun g p l e R s m args below meth c H locs cells slots Z la C hl h1 h2 _ _ _ w => lv_null C.1 C.2.1 hd w)
theorem zk_r_ldc {idx : Nat} {v : Int} (hd : decode (zk_cc mid) pc = .ok (.ldc idx, 2)) (hw : Cond.constant (zk_cn (zk_own mid)) idx (Int32.ofInt v) ∈ zk_gT) (hr : zk_rI v) (k : zk_Ok mid N1 (pc + 2) ls (.inl v :: st) S Q) : zk_Ok mid N1 pc ls st S Q :=
  zk_go k (fun _ h _ => zk_ok_c.mpr ⟨hr, h⟩) (fun g p l e R s m args below meth c H locs cells slots Z la C hl h1 h2 _ _ _ w => lv_ldc C.1 C.2.1 C.2.2.2.1 (C.2.2.2.2.1 _ hw) hd w)
theorem zk_r_ldcw {idx : Nat} {v : Int} (hd : decode (zk_cc mid) pc = .ok (.ldc_w idx, 3)) (hw : Cond.constant (zk_cn (zk_own mid)) idx (Int32.ofInt v) ∈ zk_gT) (hr : zk_rI v) (k : zk_Ok mid N1 (pc + 3) ls (.inl v :: st) S Q) : zk_Ok mid N1 pc ls st S Q :=
  zk_go k (fun _ h _ => zk_ok_c.mpr ⟨hr, h⟩) (fun g p l e R s m args below meth c H locs cells slots Z la C hl h1 h2 _ _ _ w => lv_ldcw C.1 C.2.1 C.2.2.2.1 (C.2.2.2.2.1 _ hw) hd w)
theorem zk_r_ldc2 {idx : Nat} {v : Int} (hd : decode (zk_cc mid) pc = .ok (.ldc2_w idx, 3)) (hw : Cond.constantLong (zk_cn (zk_own mid)) idx (Int64.ofInt v) ∈ zk_gT) (hr : zk_rJ v) (k : zk_Ok mid N1 (pc + 3) ls (.inr (.inl v) :: st) S Q) : zk_Ok mid N1 pc ls st S Q :=
  zk_go k (fun _ h _ => zk_ok_c.mpr ⟨hr, h⟩) (fun g p l e R s m args below meth c H locs cells slots Z la C hl h1 h2 _ _ _ w => lv_ldc2 C.1 C.2.1 C.2.2.2.1 (C.2.2.2.2.1 _ hw) hd w)
theorem zk_r_ldcS {idx : Nat} (hd : decode (zk_cc mid) pc = .ok (.ldc idx, 2)) (ho : zk_own mid = 10) (hi : idx = 60) (k : zk_Ok mid N1 (pc + 2) ls (.inr (.inr (.inr 1)) :: st) S Q) : zk_Ok mid N1 pc ls st S Q :=
  zk_go k (fun _ h _ => zk_ok_c.mpr ⟨trivial, h⟩) (fun g p l e R s m args below meth c H locs cells slots Z la C hl h1 h2 _ _ _ w => by
    subst hi
    exact va_ldcS C.1 C.2.1 (own := "VeilOfStones$Tape") (by have := C.2.2.2.1; rw [ho] at this; exact this) C.2.2.2.2.2.2.2.1.1 hd w)
theorem zk_at {i : Nat} {v : zk_V} {g : zk_G} {la : Array Slot} {n : Nat} (h : zk_LR g la n ls) (hi : ls[i]? = some v) (hr : zk_real v = true) : la[i]? = some (.val (zk_enc g v)) := h.2.2 i v hi hr
theorem zk_okAt {i : Nat} {v : zk_V} (h : zk_okL ls) (hi : ls[i]? = some v) : zk_okV v := h v (List.mem_of_getElem? hi)
theorem zk_r_iload {i : Nat} {x : Int} (hd : decode (zk_cc mid) pc = .ok (.iload i, 2)) (hi : ls[i]? = some (.inl x)) (k : zk_Ok mid N1 (pc + 2) ls (.inl x :: st) S Q) : zk_Ok mid N1 pc ls st S Q :=
  zk_go k (fun h1 h _ => zk_ok_c.mpr ⟨zk_okAt h1 hi, h⟩) (fun g p l e R s m args below meth c H locs cells slots Z la C hl h1 h2 _ _ _ w => lv_iload C.1 C.2.1 hd (zk_at hl hi rfl) w)
theorem zk_r_iload_n {j : Fin 4} {x : Int} (hd : decode (zk_cc mid) pc = .ok (.iload_n j, 1)) (hi : ls[(j : Nat)]? = some (.inl x)) (k : zk_Ok mid N1 (pc + 1) ls (.inl x :: st) S Q) : zk_Ok mid N1 pc ls st S Q :=
  zk_go k (fun h1 h _ => zk_ok_c.mpr ⟨zk_okAt h1 hi, h⟩) (fun g p l e R s m args below meth c H locs cells slots Z la C hl h1 h2 _ _ _ w => lv_iload_n C.1 C.2.1 hd rfl (zk_at hl hi rfl) w)
theorem zk_r_lload {i : Nat} {x : Int} (hd : decode (zk_cc mid) pc = .ok (.lload i, 2)) (hi : ls[i]? = some (.inr (.inl x))) (k : zk_Ok mid N1 (pc + 2) ls (.inr (.inl x) :: st) S Q) : zk_Ok mid N1 pc ls st S Q :=
  zk_go k (fun h1 h _ => zk_ok_c.mpr ⟨zk_okAt h1 hi, h⟩) (fun g p l e R s m args below meth c H locs cells slots Z la C hl h1 h2 _ _ _ w => lv_lload C.1 C.2.1 hd (zk_at hl hi rfl) w)
theorem zk_r_lload_n {j : Fin 4} {x : Int} (hd : decode (zk_cc mid) pc = .ok (.lload_n j, 1)) (hi : ls[(j : Nat)]? = some (.inr (.inl x))) (k : zk_Ok mid N1 (pc + 1) ls (.inr (.inl x) :: st) S Q) : zk_Ok mid N1 pc ls st S Q :=
  zk_go k (fun h1 h _ => zk_ok_c.mpr ⟨zk_okAt h1 hi, h⟩) (fun g p l e R s m args below meth c H locs cells slots Z la C hl h1 h2 _ _ _ w => lv_lload_n C.1 C.2.1 hd rfl (zk_at hl hi rfl) w)
/-- a reference that is no null: a cell, the text, the script -/
def zk_isR (v : zk_V) : Bool := match v with
  | .inr (.inr (.inl (_ + 1))) => true
  | .inr (.inr (.inr (_ + 1))) => true
  | _ => false
theorem zk_isR_enc {g : zk_G} {v : zk_V} (h : zk_isR v = true) : ∃ a, zk_enc g v = .ref a := by
  match v, h with
  | .inr (.inr (.inl (k + 1))), _ => exact ⟨_, rfl⟩
  | .inr (.inr (.inr (k + 1))), _ => exact ⟨_, rfl⟩
theorem zk_isR_real {v : zk_V} (h : zk_isR v = true) : zk_real v = true := by
  match v, h with
  | .inr (.inr (.inl (k + 1))), _ => rfl
  | .inr (.inr (.inr (k + 1))), _ => rfl
theorem zk_isR_ok {v : zk_V} (h : zk_isR v = true) : zk_okV v := by
  match v, h with
  | .inr (.inr (.inl (k + 1))), _ => trivial
  | .inr (.inr (.inr (k + 1))), _ => trivial
theorem zk_r_aload {i : Nat} {v : zk_V} (hd : decode (zk_cc mid) pc = .ok (.aload i, 2)) (hi : ls[i]? = some v) (hv : zk_isR v = true) (k : zk_Ok mid N1 (pc + 2) ls (v :: st) S Q) : zk_Ok mid N1 pc ls st S Q :=
  zk_go k (fun h1 h _ => zk_ok_c.mpr ⟨zk_okAt h1 hi, h⟩) (fun g p l e R s m args below meth c H locs cells slots Z la C hl h1 h2 _ _ _ w => by
    obtain ⟨a, ha⟩ := zk_isR_enc (g := g) hv
    have hat := zk_at hl hi (zk_isR_real hv)
    rw [ha] at hat
    rw [List.map_cons, ha] at w
    exact lv_aload C.1 C.2.1 hd hat w)
theorem zk_r_aload_n {j : Fin 4} {v : zk_V} (hd : decode (zk_cc mid) pc = .ok (.aload_n j, 1)) (hi : ls[(j : Nat)]? = some v) (hv : zk_isR v = true) (k : zk_Ok mid N1 (pc + 1) ls (v :: st) S Q) : zk_Ok mid N1 pc ls st S Q :=
  zk_go k (fun h1 h _ => zk_ok_c.mpr ⟨zk_okAt h1 hi, h⟩) (fun g p l e R s m args below meth c H locs cells slots Z la C hl h1 h2 _ _ _ w => by
    obtain ⟨a, ha⟩ := zk_isR_enc (g := g) hv
    have hat := zk_at hl hi (zk_isR_real hv)
    rw [ha] at hat
    rw [List.map_cons, ha] at w
    exact lv_aload_n C.1 C.2.1 hd rfl hat w)
/-! stores into locals -/
theorem zk_LR_set {g : zk_G} {la la' : Array Slot} {n i : Nat} {v : zk_V} (h : zk_LR g la n ls) (hc : (zk_enc g v).category = 1) (hp : ∀ x, i ≠ 0 → ls[i - 1]? ≠ some (.inr (.inl x))) (hl : lv_has la' n ((i, zk_enc g v) :: (ls.zipIdx.filterMap fun q => if zk_real q.1 then some (q.2, zk_enc g q.1) else none).filter (fun q => !(q.1 == i) && !(q.1 + 1 == i && q.2.category == 2)))) : zk_LR g la' n (ls.set i v) := by
  refine ⟨hl.1, hl.2.1, fun j w hj hw => ?_⟩
  by_cases e : i = j
  · subst e
    have hlt : i < ls.length := by
      have := (List.getElem?_eq_some_iff.mp hj).1
      simpa using this
    rw [List.getElem?_set_self hlt] at hj
    cases hj
    exact hl.2.2 (i, zk_enc g v) List.mem_cons_self
  · rw [List.getElem?_set_ne e] at hj
    refine hl.2.2 (j, zk_enc g w) (List.mem_cons_of_mem _ (List.mem_filter.mpr ⟨List.mem_filterMap.mpr ⟨(w, j), ?_, by simp [hw]⟩, ?_⟩))
    · exact List.mem_zipIdx_iff_getElem?.mpr hj
    · by_cases e2 : j + 1 = i
      · have h2 : ¬ (zk_enc g w).category = 2 := by
          match w, hw with
          | .inl x, _ => simp [zk_enc, Value.category]
          | .inr (.inl x), _ =>
            exact absurd hj (by have := hp x (by omega); rw [← e2] at this; simpa using this)
          | .inr (.inr (.inl 0)), _ => simp [zk_enc, zk_encR, Value.category]
          | .inr (.inr (.inl (k + 1))), _ => simp [zk_enc, zk_encR, Value.category]
          | .inr (.inr (.inr k)), _ => simp [zk_enc, Value.category]
        simp [Ne.symm e, h2]
      · simp [Ne.symm e, e2]
theorem zk_LR_has {g : zk_G} {la : Array Slot} {n : Nat} (h : zk_LR g la n ls) : lv_has la n (ls.zipIdx.filterMap fun q => if zk_real q.1 then some (q.2, zk_enc g q.1) else none) := by
  refine ⟨h.1, h.2.1, fun q hq => ?_⟩
  obtain ⟨⟨w, j⟩, hm, he⟩ := List.mem_filterMap.mp hq
  have hj := List.mem_zipIdx_iff_getElem?.mp hm
  by_cases hw : zk_real w = true
  · simp [hw] at he
    rw [← he]
    exact h.2.2 j w hj hw
  · simp [hw] at he
theorem zk_ok_set {i : Nat} {v : zk_V} (h : zk_okL ls) (hv : zk_okV v) : zk_okL (ls.set i v) := fun w hw => by
  rcases List.mem_or_eq_of_mem_set hw with h1 | h1
  · exact h w h1
  · rw [h1]; exact hv
/-- a store into a local: what lv_istore and its like need -/
theorem zk_goS {mid N1 pc pc' i : Nat} {v : zk_V} {ls st st' : List zk_V} {S : zk_S} {Q : Option zk_V → zk_S → Prop} (k : zk_Ok mid N1 pc' (ls.set i v) st' S Q) (hc : ∀ g, (zk_enc g v).category = 1) (hp : ∀ x, i ≠ 0 → ls[i - 1]? ≠ some (.inr (.inl x))) (hok : zk_okL ls → zk_okL st → zk_okL st' ∧ zk_okV v)
    (hw : ∀ (g : zk_G) (p : Program) (l : Launch) (e : Env) (R : Room) (s : State) (m : MethodId) (args : Array Value) (below : List Frame) (meth : Method) (c : Code) (H : Heap) (locs : List Loc) (cells slots : Nat) (Z : State → Prop) (la : Array Slot), zk_Cx g mid p R s m args meth c → zk_LR g la (zk_mL mid) ls → zk_okL ls → zk_okL st →
      (∀ la', lv_has la' (zk_mL mid) ((i, zk_enc g v) :: (ls.zipIdx.filterMap fun q => if zk_real q.1 then some (q.2, zk_enc g q.1) else none).filter (fun q => !(q.1 == i) && !(q.1 + 1 == i && q.2.category == 2))) → W p l e R s m args below meth c H locs cells slots Z (F0 m pc' la' (st'.map (zk_enc g)))) → W p l e R s m args below meth c H locs cells slots Z (F0 m pc la (st.map (zk_enc g)))) : zk_Ok mid N1 pc ls st S Q := by
  intro g p l e R s m args below meth c Z C hr H locs cells slots la hl h1 h2 hR hM hS hcs
  refine hw g p l e R s m args below meth c H locs cells slots Z la C hl h1 h2 (fun la' hl' => ?_)
  exact k g p l e R s m args below meth c Z C hr H locs cells slots la' (zk_LR_set hl (hc g) hp hl') (zk_ok_set h1 (hok h1 h2).2) (hok h1 h2).1 hR hM hS hcs
theorem zk_r_istore {i : Nat} {x : Int} (hd : decode (zk_cc mid) pc = .ok (.istore i, 2)) (hn : i < zk_mL mid) (hp : ∀ x, i ≠ 0 → ls[i - 1]? ≠ some (.inr (.inl x))) (k : zk_Ok mid N1 (pc + 2) (ls.set i (.inl x)) st S Q) : zk_Ok mid N1 pc ls (.inl x :: st) S Q :=
  zk_goS k (fun _ => rfl) hp (fun _ h => ⟨(zk_ok_c.mp h).2, (zk_ok_c.mp h).1⟩) (fun g p l e R s m args below meth c H locs cells slots Z la C hl h1 h2 w => lv_istore C.1 C.2.1 hd (zk_LR_has hl) hn rfl w)
theorem zk_r_istore_n {j : Fin 4} {x : Int} (hd : decode (zk_cc mid) pc = .ok (.istore_n j, 1)) (hn : (j : Nat) < zk_mL mid) (hp : ∀ x, (j : Nat) ≠ 0 → ls[(j : Nat) - 1]? ≠ some (.inr (.inl x))) (k : zk_Ok mid N1 (pc + 1) (ls.set j (.inl x)) st S Q) : zk_Ok mid N1 pc ls (.inl x :: st) S Q :=
  zk_goS k (fun _ => rfl) hp (fun _ h => ⟨(zk_ok_c.mp h).2, (zk_ok_c.mp h).1⟩) (fun g p l e R s m args below meth c H locs cells slots Z la C hl h1 h2 w => lv_istore_n C.1 C.2.1 hd rfl (zk_LR_has hl) hn rfl w)
theorem zk_isR_cat {g : zk_G} {v : zk_V} (h : zk_isR v = true) : (zk_enc g v).category = 1 := by
  obtain ⟨a, ha⟩ := zk_isR_enc (g := g) h
  rw [ha]; rfl
theorem zk_r_astore {i : Nat} {v : zk_V} (hd : decode (zk_cc mid) pc = .ok (.astore i, 2)) (hv : zk_isR v = true) (hn : i < zk_mL mid) (hp : ∀ x, i ≠ 0 → ls[i - 1]? ≠ some (.inr (.inl x))) (k : zk_Ok mid N1 (pc + 2) (ls.set i v) st S Q) : zk_Ok mid N1 pc ls (v :: st) S Q :=
  zk_goS k (fun _ => zk_isR_cat hv) hp (fun _ h => ⟨(zk_ok_c.mp h).2, (zk_ok_c.mp h).1⟩) (fun g p l e R s m args below meth c H locs cells slots Z la C hl h1 h2 w => by
    obtain ⟨a, ha⟩ := zk_isR_enc (g := g) hv
    rw [ha] at w
    rw [List.map_cons, ha]
    exact lv_astore C.1 C.2.1 hd (zk_LR_has hl) hn rfl w)
theorem zk_r_astore_n {j : Fin 4} {v : zk_V} (hd : decode (zk_cc mid) pc = .ok (.astore_n j, 1)) (hv : zk_isR v = true) (hn : (j : Nat) < zk_mL mid) (hp : ∀ x, (j : Nat) ≠ 0 → ls[(j : Nat) - 1]? ≠ some (.inr (.inl x))) (k : zk_Ok mid N1 (pc + 1) (ls.set j v) st S Q) : zk_Ok mid N1 pc ls (v :: st) S Q :=
  zk_goS k (fun _ => zk_isR_cat hv) hp (fun _ h => ⟨(zk_ok_c.mp h).2, (zk_ok_c.mp h).1⟩) (fun g p l e R s m args below meth c H locs cells slots Z la C hl h1 h2 w => by
    obtain ⟨a, ha⟩ := zk_isR_enc (g := g) hv
    rw [ha] at w
    rw [List.map_cons, ha]
    exact lv_astore_n C.1 C.2.1 hd rfl (zk_LR_has hl) hn rfl w)
theorem zk_has_ix {g : zk_G} {i : Nat} {v : zk_V} (hi : ls[i]? = some v) (hr : zk_real v = true) : ∃ q : Nat, (ls.zipIdx.filterMap fun q => if zk_real q.1 then some (q.2, zk_enc g q.1) else none)[q]? = some (i, zk_enc g v) := by
  apply List.getElem?_of_mem
  exact List.mem_filterMap.mpr ⟨(v, i), List.mem_zipIdx_iff_getElem?.mpr hi, by simp [hr]⟩
theorem zk_r_iinc {i : Nat} {n x : Int} (hd : decode (zk_cc mid) pc = .ok (.iinc i n, 3)) (hi : ls[i]? = some (.inl x)) (hn : i < zk_mL mid) (hp : ∀ x, i ≠ 0 → ls[i - 1]? ≠ some (.inr (.inl x))) (hr : zk_rI (x + n)) (k : zk_Ok mid N1 (pc + 3) (ls.set i (.inl (x + n))) st S Q) : zk_Ok mid N1 pc ls st S Q :=
  zk_goS k (fun _ => rfl) hp (fun _ h => ⟨h, hr⟩) (fun g p l e R s m args below meth c H locs cells slots Z la C hl h1 h2 w => by
    obtain ⟨q, hq⟩ := zk_has_ix (g := g) hi rfl
    exact lv_iinc C.1 C.2.1 hd (zk_LR_has hl) hq (by rw [← zk_I_add]; rfl) hn rfl w)
end zk_rules
end
section
/-! rules: arithmetic, conversions, the stack, branches -/
theorem zk_r_tmod {x y : Int} (hx : zk_rI x) (hy : zk_rI y) (h0 : y ≠ 0) : zk_rI (x.tmod y) := by
  have h1 := Int.tmod_lt_of_pos x (b := (y.natAbs : Int)) (by omega)
  have h2 : x.tmod y = x.tmod (y.natAbs : Int) := by
    rcases Int.natAbs_eq y with h | h
    · rw [← h]
    · rw [h, Int.tmod_neg]; simp
  have h3 := Int.tmod_lt_of_pos (-x) (b := (y.natAbs : Int)) (by omega)
  rw [Int.neg_tmod] at h3
  unfold zk_rI at *
  rw [h2]
  omega

section zk_rules2
variable {mid N1 pc : Nat} {ls st : List zk_V} {S : zk_S} {Q : Option zk_V → zk_S → Prop}
theorem zk_r_iadd {x y : Int} (hd : decode (zk_cc mid) pc = .ok (.iadd, 1)) (hr : zk_rI (x + y)) (k : zk_Ok mid N1 (pc + 1) ls (.inl (x + y) :: st) S Q) : zk_Ok mid N1 pc ls (.inl (y) :: .inl (x) :: st) S Q :=
  zk_go k (fun _ h _ => zk_ok_c.mpr ⟨hr, (zk_ok_c.mp (zk_ok_c.mp h).2).2⟩) (fun g p l e R s m args below meth c H locs cells slots Z la C hl h1 h2 _ _ _ w => lv_iadd C.1 C.2.1 hd (by rw [zk_I_add]; exact w))
theorem zk_r_isub {x y : Int} (hd : decode (zk_cc mid) pc = .ok (.isub, 1)) (hr : zk_rI (x - y)) (k : zk_Ok mid N1 (pc + 1) ls (.inl (x - y) :: st) S Q) : zk_Ok mid N1 pc ls (.inl (y) :: .inl (x) :: st) S Q :=
  zk_go k (fun _ h _ => zk_ok_c.mpr ⟨hr, (zk_ok_c.mp (zk_ok_c.mp h).2).2⟩) (fun g p l e R s m args below meth c H locs cells slots Z la C hl h1 h2 _ _ _ w => lv_isub C.1 C.2.1 hd (by rw [zk_I_sub]; exact w))
theorem zk_r_imul {x y : Int} (hd : decode (zk_cc mid) pc = .ok (.imul, 1)) (hr : zk_rI (x * y)) (k : zk_Ok mid N1 (pc + 1) ls (.inl (x * y) :: st) S Q) : zk_Ok mid N1 pc ls (.inl (y) :: .inl (x) :: st) S Q :=
  zk_go k (fun _ h _ => zk_ok_c.mpr ⟨hr, (zk_ok_c.mp (zk_ok_c.mp h).2).2⟩) (fun g p l e R s m args below meth c H locs cells slots Z la C hl h1 h2 _ _ _ w => lv_imul C.1 C.2.1 hd (by rw [zk_I_mul]; exact w))
theorem zk_r_ladd {x y : Int} (hd : decode (zk_cc mid) pc = .ok (.ladd, 1)) (hr : zk_rJ (x + y)) (k : zk_Ok mid N1 (pc + 1) ls (.inr (.inl (x + y)) :: st) S Q) : zk_Ok mid N1 pc ls (.inr (.inl (y)) :: .inr (.inl (x)) :: st) S Q :=
  zk_go k (fun _ h _ => zk_ok_c.mpr ⟨hr, (zk_ok_c.mp (zk_ok_c.mp h).2).2⟩) (fun g p l e R s m args below meth c H locs cells slots Z la C hl h1 h2 _ _ _ w => lv_ladd C.1 C.2.1 hd (by rw [zk_J_add]; exact w))
theorem zk_r_lsub {x y : Int} (hd : decode (zk_cc mid) pc = .ok (.lsub, 1)) (hr : zk_rJ (x - y)) (k : zk_Ok mid N1 (pc + 1) ls (.inr (.inl (x - y)) :: st) S Q) : zk_Ok mid N1 pc ls (.inr (.inl (y)) :: .inr (.inl (x)) :: st) S Q :=
  zk_go k (fun _ h _ => zk_ok_c.mpr ⟨hr, (zk_ok_c.mp (zk_ok_c.mp h).2).2⟩) (fun g p l e R s m args below meth c H locs cells slots Z la C hl h1 h2 _ _ _ w => lv_lsub C.1 C.2.1 hd (by rw [zk_J_sub]; exact w))
theorem zk_r_lmul {x y : Int} (hd : decode (zk_cc mid) pc = .ok (.lmul, 1)) (hr : zk_rJ (x * y)) (k : zk_Ok mid N1 (pc + 1) ls (.inr (.inl (x * y)) :: st) S Q) : zk_Ok mid N1 pc ls (.inr (.inl (y)) :: .inr (.inl (x)) :: st) S Q :=
  zk_go k (fun _ h _ => zk_ok_c.mpr ⟨hr, (zk_ok_c.mp (zk_ok_c.mp h).2).2⟩) (fun g p l e R s m args below meth c H locs cells slots Z la C hl h1 h2 _ _ _ w => lv_lmul C.1 C.2.1 hd (by rw [zk_J_mul]; exact w))
theorem zk_r_idiv {x y : Int} (hd : decode (zk_cc mid) pc = .ok (.idiv, 1)) (hy : y ≠ 0) (hr : zk_rI (x.tdiv y)) (k : zk_Ok mid N1 (pc + 1) ls (.inl (x.tdiv y) :: st) S Q) : zk_Ok mid N1 pc ls (.inl (y) :: .inl (x) :: st) S Q :=
  zk_go k (fun _ h _ => zk_ok_c.mpr ⟨hr, (zk_ok_c.mp (zk_ok_c.mp h).2).2⟩) (fun g p l e R s m args below meth c H locs cells slots Z la C hl h1 h2 _ _ _ w => by
    have hyr := (zk_ok_c.mp h2).1
    have hxr := (zk_ok_c.mp (zk_ok_c.mp h2).2).1
    have hne : ¬ zk_I y = 0 := fun z => hy ((zk_I_inj hyr zk_r0).mp z)
    exact lv_idiv C.1 C.2.1 hd hne (by rw [zk_I_div hxr hyr hr]; exact w))
theorem zk_r_irem {x y : Int} (hd : decode (zk_cc mid) pc = .ok (.irem, 1)) (hy : y ≠ 0) (hr : zk_rI (x.tdiv y)) (k : zk_Ok mid N1 (pc + 1) ls (.inl (x.tmod y) :: st) S Q) : zk_Ok mid N1 pc ls (.inl (y) :: .inl (x) :: st) S Q :=
  zk_go k (fun _ h _ => zk_ok_c.mpr ⟨zk_r_tmod (zk_ok_c.mp (zk_ok_c.mp h).2).1 (zk_ok_c.mp h).1 hy, (zk_ok_c.mp (zk_ok_c.mp h).2).2⟩) (fun g p l e R s m args below meth c H locs cells slots Z la C hl h1 h2 _ _ _ w => by
    have hyr := (zk_ok_c.mp h2).1
    have hxr := (zk_ok_c.mp (zk_ok_c.mp h2).2).1
    have hne : ¬ zk_I y = 0 := fun z => hy ((zk_I_inj hyr zk_r0).mp z)
    exact lv_irem C.1 C.2.1 hd hne (by rw [zk_I_rem hxr hyr hr]; exact w))
theorem zk_r_ldiv {x y : Int} (hd : decode (zk_cc mid) pc = .ok (.ldiv, 1)) (hy : y ≠ 0) (hr : zk_rJ (x.tdiv y)) (k : zk_Ok mid N1 (pc + 1) ls (.inr (.inl (x.tdiv y)) :: st) S Q) : zk_Ok mid N1 pc ls (.inr (.inl (y)) :: .inr (.inl (x)) :: st) S Q :=
  zk_go k (fun _ h _ => zk_ok_c.mpr ⟨hr, (zk_ok_c.mp (zk_ok_c.mp h).2).2⟩) (fun g p l e R s m args below meth c H locs cells slots Z la C hl h1 h2 _ _ _ w => by
    have hyr := (zk_ok_c.mp h2).1
    have hxr := (zk_ok_c.mp (zk_ok_c.mp h2).2).1
    have hne : ¬ zk_J y = 0 := fun z => hy ((zk_J_inj hyr zk_rJ0).mp z)
    exact lv_ldiv C.1 C.2.1 hd hne (by rw [zk_J_div hxr hyr hr]; exact w))
theorem zk_r_ineg {x : Int} (hd : decode (zk_cc mid) pc = .ok (.ineg, 1)) (hr : zk_rI (-x)) (k : zk_Ok mid N1 (pc + 1) ls (.inl (-x) :: st) S Q) : zk_Ok mid N1 pc ls (.inl (x) :: st) S Q :=
  zk_go k (fun _ h _ => zk_ok_c.mpr ⟨hr, (zk_ok_c.mp h).2⟩) (fun g p l e R s m args below meth c H locs cells slots Z la C hl h1 h2 _ _ _ w => lv_ineg C.1 C.2.1 hd (by rw [zk_I_neg]; exact w))
theorem zk_r_lneg {x : Int} (hd : decode (zk_cc mid) pc = .ok (.lneg, 1)) (hr : zk_rJ (-x)) (k : zk_Ok mid N1 (pc + 1) ls (.inr (.inl (-x)) :: st) S Q) : zk_Ok mid N1 pc ls (.inr (.inl (x)) :: st) S Q :=
  zk_go k (fun _ h _ => zk_ok_c.mpr ⟨hr, (zk_ok_c.mp h).2⟩) (fun g p l e R s m args below meth c H locs cells slots Z la C hl h1 h2 _ _ _ w => lv_lneg C.1 C.2.1 hd (by rw [zk_J_neg]; exact w))
theorem zk_r_iand {x y : Int} (hd : decode (zk_cc mid) pc = .ok (.iand, 1)) (k : zk_Ok mid N1 (pc + 1) ls (.inl (zk_and x y) :: st) S Q) : zk_Ok mid N1 pc ls (.inl y :: .inl x :: st) S Q :=
  zk_go k (fun _ h _ => zk_ok_c.mpr ⟨zk_rI_of _, (zk_ok_c.mp (zk_ok_c.mp h).2).2⟩) (fun g p l e R s m args below meth c H locs cells slots Z la C hl h1 h2 _ _ _ w => lv_iand C.1 C.2.1 hd (by have w2 := w; simp only [List.map_cons, zk_enc, zk_and, zk_I_of] at w2; exact w2))
theorem zk_r_ior {x y : Int} (hd : decode (zk_cc mid) pc = .ok (.ior, 1)) (k : zk_Ok mid N1 (pc + 1) ls (.inl (zk_or x y) :: st) S Q) : zk_Ok mid N1 pc ls (.inl y :: .inl x :: st) S Q :=
  zk_go k (fun _ h _ => zk_ok_c.mpr ⟨zk_rI_of _, (zk_ok_c.mp (zk_ok_c.mp h).2).2⟩) (fun g p l e R s m args below meth c H locs cells slots Z la C hl h1 h2 _ _ _ w => lv_ior C.1 C.2.1 hd (by have w2 := w; simp only [List.map_cons, zk_enc, zk_or, zk_I_of] at w2; exact w2))
theorem zk_r_ixor {x y : Int} (hd : decode (zk_cc mid) pc = .ok (.ixor, 1)) (k : zk_Ok mid N1 (pc + 1) ls (.inl (zk_xor x y) :: st) S Q) : zk_Ok mid N1 pc ls (.inl y :: .inl x :: st) S Q :=
  zk_go k (fun _ h _ => zk_ok_c.mpr ⟨zk_rI_of _, (zk_ok_c.mp (zk_ok_c.mp h).2).2⟩) (fun g p l e R s m args below meth c H locs cells slots Z la C hl h1 h2 _ _ _ w => lv_ixor C.1 C.2.1 hd (by have w2 := w; simp only [List.map_cons, zk_enc, zk_xor, zk_I_of] at w2; exact w2))
theorem zk_r_ishl {x y : Int} (hd : decode (zk_cc mid) pc = .ok (.ishl, 1)) (k : zk_Ok mid N1 (pc + 1) ls (.inl (zk_shl x y) :: st) S Q) : zk_Ok mid N1 pc ls (.inl y :: .inl x :: st) S Q :=
  zk_go k (fun _ h _ => zk_ok_c.mpr ⟨zk_rI_of _, (zk_ok_c.mp (zk_ok_c.mp h).2).2⟩) (fun g p l e R s m args below meth c H locs cells slots Z la C hl h1 h2 _ _ _ w => lv_ishl C.1 C.2.1 hd (by have w2 := w; simp only [List.map_cons, zk_enc, zk_shl, zk_I_of] at w2; exact w2))
theorem zk_r_ishr {x y : Int} (hd : decode (zk_cc mid) pc = .ok (.ishr, 1)) (k : zk_Ok mid N1 (pc + 1) ls (.inl (zk_shr x y) :: st) S Q) : zk_Ok mid N1 pc ls (.inl y :: .inl x :: st) S Q :=
  zk_go k (fun _ h _ => zk_ok_c.mpr ⟨zk_rI_of _, (zk_ok_c.mp (zk_ok_c.mp h).2).2⟩) (fun g p l e R s m args below meth c H locs cells slots Z la C hl h1 h2 _ _ _ w => lv_ishr C.1 C.2.1 hd (by have w2 := w; simp only [List.map_cons, zk_enc, zk_shr, zk_I_of] at w2; exact w2))
theorem zk_r_iushr {x y : Int} (hd : decode (zk_cc mid) pc = .ok (.iushr, 1)) (k : zk_Ok mid N1 (pc + 1) ls (.inl (zk_ushr x y) :: st) S Q) : zk_Ok mid N1 pc ls (.inl y :: .inl x :: st) S Q :=
  zk_go k (fun _ h _ => zk_ok_c.mpr ⟨zk_rI_of _, (zk_ok_c.mp (zk_ok_c.mp h).2).2⟩) (fun g p l e R s m args below meth c H locs cells slots Z la C hl h1 h2 _ _ _ w => lv_iushr C.1 C.2.1 hd rfl (by have w2 := w; simp only [List.map_cons, zk_enc, zk_ushr, zk_I_of] at w2; exact w2))
theorem zk_r_lor {x y : Int} (hd : decode (zk_cc mid) pc = .ok (.lor, 1)) (k : zk_Ok mid N1 (pc + 1) ls (.inr (.inl (zk_lor x y)) :: st) S Q) : zk_Ok mid N1 pc ls (.inr (.inl y) :: .inr (.inl x) :: st) S Q :=
  zk_go k (fun _ h _ => zk_ok_c.mpr ⟨zk_rJ_of _, (zk_ok_c.mp (zk_ok_c.mp h).2).2⟩) (fun g p l e R s m args below meth c H locs cells slots Z la C hl h1 h2 _ _ _ w => lv_lor C.1 C.2.1 hd (by have w2 := w; simp only [List.map_cons, zk_enc, zk_lor, zk_J_of] at w2; exact w2))
theorem zk_r_lshl {x y : Int} (hd : decode (zk_cc mid) pc = .ok (.lshl, 1)) (k : zk_Ok mid N1 (pc + 1) ls (.inr (.inl (zk_lshl x y)) :: st) S Q) : zk_Ok mid N1 pc ls (.inl y :: .inr (.inl x) :: st) S Q :=
  zk_go k (fun _ h _ => zk_ok_c.mpr ⟨zk_rJ_of _, (zk_ok_c.mp (zk_ok_c.mp h).2).2⟩) (fun g p l e R s m args below meth c H locs cells slots Z la C hl h1 h2 _ _ _ w => lv_lshl C.1 C.2.1 hd rfl (by have w2 := w; simp only [List.map_cons, zk_enc, zk_lshl, zk_J_of] at w2; exact w2))
theorem zk_r_lcmp {x y : Int} (hd : decode (zk_cc mid) pc = .ok (.lcmp, 1)) (k : zk_Ok mid N1 (pc + 1) ls (.inl (zk_cmp x y) :: st) S Q) : zk_Ok mid N1 pc ls (.inr (.inl y) :: .inr (.inl x) :: st) S Q :=
  zk_go k (fun _ h _ => zk_ok_c.mpr ⟨zk_rI_cmp _ _, (zk_ok_c.mp (zk_ok_c.mp h).2).2⟩) (fun g p l e R s m args below meth c H locs cells slots Z la C hl h1 h2 _ _ _ w => W.lcmp C.1 C.2.1 hd (by rw [zk_cmp_eq (zk_ok_c.mp (zk_ok_c.mp h2).2).1 (zk_ok_c.mp h2).1]; exact w))
theorem zk_r_i2l {x : Int} (hd : decode (zk_cc mid) pc = .ok (.i2l, 1)) (k : zk_Ok mid N1 (pc + 1) ls (.inr (.inl x) :: st) S Q) : zk_Ok mid N1 pc ls (.inl x :: st) S Q :=
  zk_go k (fun _ h _ => zk_ok_c.mpr ⟨zk_rIJ (zk_ok_c.mp h).1, (zk_ok_c.mp h).2⟩) (fun g p l e R s m args below meth c H locs cells slots Z la C hl h1 h2 _ _ _ w => lv_i2l C.1 C.2.1 hd (zk_ilong (zk_ok_c.mp h2).1) w)
theorem zk_r_l2i {x : Int} (hd : decode (zk_cc mid) pc = .ok (.l2i, 1)) (hr : zk_rI x) (k : zk_Ok mid N1 (pc + 1) ls (.inl x :: st) S Q) : zk_Ok mid N1 pc ls (.inr (.inl x) :: st) S Q :=
  zk_go k (fun _ h _ => zk_ok_c.mpr ⟨hr, (zk_ok_c.mp h).2⟩) (fun g p l e R s m args below meth c H locs cells slots Z la C hl h1 h2 _ _ _ w => lv_l2i C.1 C.2.1 hd (zk_lint hr) w)
theorem zk_chr {x : Int} (h0 : 0 ≤ x) (h1 : x ≤ 65535) : ((zk_I x).toUInt32 % 65536).toInt32 = zk_I x := by
  have hr : zk_rI x := by unfold zk_rI; omega
  have e : zk_I x = nI x.toNat := by
    apply Int32.toInt_inj.mp
    rw [zk_I_toInt hr, nI_toInt (by omega)]
    omega
  rw [e, pk_char]
  congr 1
  rw [pk_tn (by omega)]
  omega
theorem zk_r_i2c {x : Int} (hd : decode (zk_cc mid) pc = .ok (.i2c, 1)) (h0 : 0 ≤ x) (h9 : x ≤ 65535) (k : zk_Ok mid N1 (pc + 1) ls (.inl x :: st) S Q) : zk_Ok mid N1 pc ls (.inl x :: st) S Q :=
  zk_go k (fun _ h _ => h) (fun g p l e R s m args below meth c H locs cells slots Z la C hl h1 h2 _ _ _ w => lv_i2c C.1 C.2.1 hd (zk_chr h0 h9) w)
theorem zk_cat1 {g : zk_G} {v : zk_V} (hv : ∀ x, v ≠ .inr (.inl x)) : (zk_enc g v).category = 1 := by
  match v, hv with
  | .inl x, _ => rfl
  | .inr (.inl x), h => exact absurd rfl (h x)
  | .inr (.inr (.inl 0)), _ => rfl
  | .inr (.inr (.inl (k + 1))), _ => rfl
  | .inr (.inr (.inr k)), _ => rfl
theorem zk_r_dup {v : zk_V} (hd : decode (zk_cc mid) pc = .ok (.dup, 1)) (hv : ∀ x, v ≠ .inr (.inl x)) (k : zk_Ok mid N1 (pc + 1) ls (v :: v :: st) S Q) : zk_Ok mid N1 pc ls (v :: st) S Q :=
  zk_go k (fun _ h _ => zk_ok_c.mpr ⟨(zk_ok_c.mp h).1, h⟩) (fun g p l e R s m args below meth c H locs cells slots Z la C hl h1 h2 _ _ _ w => lv_dup C.1 C.2.1 hd (zk_cat1 hv) w)
theorem zk_r_pop {v : zk_V} (hd : decode (zk_cc mid) pc = .ok (.pop, 1)) (hv : ∀ x, v ≠ .inr (.inl x)) (k : zk_Ok mid N1 (pc + 1) ls st S Q) : zk_Ok mid N1 pc ls (v :: st) S Q :=
  zk_go k (fun _ h _ => (zk_ok_c.mp h).2) (fun g p l e R s m args below meth c H locs cells slots Z la C hl h1 h2 _ _ _ w => lv_pop C.1 C.2.1 hd (zk_cat1 hv) w)
theorem zk_r_dup2 {v u : zk_V} (hd : decode (zk_cc mid) pc = .ok (.dup2, 1)) (hv : ∀ x, v ≠ .inr (.inl x)) (hu : ∀ x, u ≠ .inr (.inl x)) (k : zk_Ok mid N1 (pc + 1) ls (v :: u :: v :: u :: st) S Q) : zk_Ok mid N1 pc ls (v :: u :: st) S Q :=
  zk_go k (fun _ h _ => zk_ok_c.mpr ⟨(zk_ok_c.mp h).1, zk_ok_c.mpr ⟨(zk_ok_c.mp (zk_ok_c.mp h).2).1, h⟩⟩) (fun g p l e R s m args below meth c H locs cells slots Z la C hl h1 h2 _ _ _ w => lv_dup2_11 C.1 C.2.1 hd (zk_cat1 hv) (zk_cat1 hu) w)
theorem zk_r_goto {off : Int} {tgt : Nat} (hd : decode (zk_cc mid) pc = .ok (.goto off, 3)) (ht : (pc : Int) + off = (tgt : Int)) (k : zk_Ok mid N1 tgt ls st S Q) : zk_Ok mid N1 pc ls st S Q :=
  zk_go k (fun _ h _ => h) (fun g p l e R s m args below meth c H locs cells slots Z la C hl h1 h2 _ _ _ w => lv_goto C.1 C.2.1 hd ht w)
theorem zk_br {mid N1 pc p1 p2 : Nat} {ls st st' : List zk_V} {S : zk_S} {Q : Option zk_V → zk_S → Prop} {b : Prop} (k1 : b → zk_Ok mid N1 p1 ls st' S Q) (k2 : ¬ b → zk_Ok mid N1 p2 ls st' S Q) (hok : zk_okL st → zk_okL st')
    (hw : ∀ (g : zk_G) (p : Program) (l : Launch) (e : Env) (R : Room) (s : State) (m : MethodId) (args : Array Value) (below : List Frame) (meth : Method) (c : Code) (H : Heap) (locs : List Loc) (cells slots : Nat) (Z : State → Prop) (la : Array Slot), zk_Cx g mid p R s m args meth c → zk_okL st →
      (b → W p l e R s m args below meth c H locs cells slots Z (F0 m p1 la (st'.map (zk_enc g)))) → (¬ b → W p l e R s m args below meth c H locs cells slots Z (F0 m p2 la (st'.map (zk_enc g)))) → W p l e R s m args below meth c H locs cells slots Z (F0 m pc la (st.map (zk_enc g)))) : zk_Ok mid N1 pc ls st S Q := by
  intro g p l e R s m args below meth c Z C hr H locs cells slots la hl h1 h2 hR hM hS hc
  exact hw g p l e R s m args below meth c H locs cells slots Z la C h2 (fun hb => k1 hb g p l e R s m args below meth c Z C hr H locs cells slots la hl h1 (hok h2) hR hM hS hc) (fun hb => k2 hb g p l e R s m args below meth c Z C hr H locs cells slots la hl h1 (hok h2) hR hM hS hc)
theorem zk_r_if_eq {x : Int} {off : Int} {tgt : Nat} (hd : decode (zk_cc mid) pc = .ok (.ifCond .eq off, 3)) (ht : (pc : Int) + off = (tgt : Int)) (k1 : x = 0 → zk_Ok mid N1 tgt ls st S Q) (k2 : ¬ x = 0 → zk_Ok mid N1 (pc + 3) ls st S Q) : zk_Ok mid N1 pc ls (.inl x :: st) S Q :=
  zk_br (b := x = 0) k1 k2 (fun h => (zk_ok_c.mp h).2) (fun g p l e R s m args below meth c H locs cells slots Z la C h2 w1 w2 => by
    have hx : zk_rI x := (zk_ok_c.mp h2).1
    have hy : zk_rI 0 := zk_r0
    exact lv_if_eq C.1 C.2.1 hd ht (fun z => w1 ((zk_I_inj hx hy).mp z)) (fun z => w2 (fun q => z ((zk_I_inj hx hy).mpr q))))
theorem zk_r_icmp_eq {x y : Int} {off : Int} {tgt : Nat} (hd : decode (zk_cc mid) pc = .ok (.if_icmp .eq off, 3)) (ht : (pc : Int) + off = (tgt : Int)) (k1 : x = y → zk_Ok mid N1 tgt ls st S Q) (k2 : ¬ x = y → zk_Ok mid N1 (pc + 3) ls st S Q) : zk_Ok mid N1 pc ls (.inl y :: .inl x :: st) S Q :=
  zk_br (b := x = y) k1 k2 (fun h => (zk_ok_c.mp (zk_ok_c.mp h).2).2) (fun g p l e R s m args below meth c H locs cells slots Z la C h2 w1 w2 => by
    have hx : zk_rI x := (zk_ok_c.mp (zk_ok_c.mp h2).2).1
    have hy : zk_rI y := (zk_ok_c.mp h2).1
    exact lv_icmp_eq C.1 C.2.1 hd ht (fun z => w1 ((zk_I_inj hx hy).mp z)) (fun z => w2 (fun q => z ((zk_I_inj hx hy).mpr q))))
theorem zk_r_if_ne {x : Int} {off : Int} {tgt : Nat} (hd : decode (zk_cc mid) pc = .ok (.ifCond .ne off, 3)) (ht : (pc : Int) + off = (tgt : Int)) (k1 : ¬ x = 0 → zk_Ok mid N1 tgt ls st S Q) (k2 : x = 0 → zk_Ok mid N1 (pc + 3) ls st S Q) : zk_Ok mid N1 pc ls (.inl x :: st) S Q :=
  zk_br (b := ¬ x = 0) k1 (fun h => k2 (Decidable.not_not.mp h)) (fun h => (zk_ok_c.mp h).2) (fun g p l e R s m args below meth c H locs cells slots Z la C h2 w1 w2 => by
    have hx : zk_rI x := (zk_ok_c.mp h2).1
    have hy : zk_rI 0 := zk_r0
    exact lv_if_ne C.1 C.2.1 hd ht (fun z => w1 (((not_congr (zk_I_inj hx hy))).mp z)) (fun z => w2 (fun q => q ((zk_I_inj hx hy).mp z))))
theorem zk_r_icmp_ne {x y : Int} {off : Int} {tgt : Nat} (hd : decode (zk_cc mid) pc = .ok (.if_icmp .ne off, 3)) (ht : (pc : Int) + off = (tgt : Int)) (k1 : ¬ x = y → zk_Ok mid N1 tgt ls st S Q) (k2 : x = y → zk_Ok mid N1 (pc + 3) ls st S Q) : zk_Ok mid N1 pc ls (.inl y :: .inl x :: st) S Q :=
  zk_br (b := ¬ x = y) k1 (fun h => k2 (Decidable.not_not.mp h)) (fun h => (zk_ok_c.mp (zk_ok_c.mp h).2).2) (fun g p l e R s m args below meth c H locs cells slots Z la C h2 w1 w2 => by
    have hx : zk_rI x := (zk_ok_c.mp (zk_ok_c.mp h2).2).1
    have hy : zk_rI y := (zk_ok_c.mp h2).1
    exact lv_icmp_ne C.1 C.2.1 hd ht (fun z => w1 (((not_congr (zk_I_inj hx hy))).mp z)) (fun z => w2 (fun q => q ((zk_I_inj hx hy).mp z))))
theorem zk_r_if_lt {x : Int} {off : Int} {tgt : Nat} (hd : decode (zk_cc mid) pc = .ok (.ifCond .lt off, 3)) (ht : (pc : Int) + off = (tgt : Int)) (k1 : x < 0 → zk_Ok mid N1 tgt ls st S Q) (k2 : ¬ (x < 0) → zk_Ok mid N1 (pc + 3) ls st S Q) : zk_Ok mid N1 pc ls (.inl x :: st) S Q :=
  zk_br (b := x < 0) k1 k2 (fun h => (zk_ok_c.mp h).2) (fun g p l e R s m args below meth c H locs cells slots Z la C h2 w1 w2 => by
    have hx : zk_rI x := (zk_ok_c.mp h2).1
    have hy : zk_rI 0 := zk_r0
    exact lv_if_lt C.1 C.2.1 hd ht (fun z => w1 ((zk_I_lt hx hy).mp z)) (fun z => w2 (fun q => z ((zk_I_lt hx hy).mpr q))))
theorem zk_r_icmp_lt {x y : Int} {off : Int} {tgt : Nat} (hd : decode (zk_cc mid) pc = .ok (.if_icmp .lt off, 3)) (ht : (pc : Int) + off = (tgt : Int)) (k1 : x < y → zk_Ok mid N1 tgt ls st S Q) (k2 : ¬ (x < y) → zk_Ok mid N1 (pc + 3) ls st S Q) : zk_Ok mid N1 pc ls (.inl y :: .inl x :: st) S Q :=
  zk_br (b := x < y) k1 k2 (fun h => (zk_ok_c.mp (zk_ok_c.mp h).2).2) (fun g p l e R s m args below meth c H locs cells slots Z la C h2 w1 w2 => by
    have hx : zk_rI x := (zk_ok_c.mp (zk_ok_c.mp h2).2).1
    have hy : zk_rI y := (zk_ok_c.mp h2).1
    exact lv_icmp_lt C.1 C.2.1 hd ht (fun z => w1 ((zk_I_lt hx hy).mp z)) (fun z => w2 (fun q => z ((zk_I_lt hx hy).mpr q))))
theorem zk_r_if_ge {x : Int} {off : Int} {tgt : Nat} (hd : decode (zk_cc mid) pc = .ok (.ifCond .ge off, 3)) (ht : (pc : Int) + off = (tgt : Int)) (k1 : 0 ≤ x → zk_Ok mid N1 tgt ls st S Q) (k2 : ¬ (0 ≤ x) → zk_Ok mid N1 (pc + 3) ls st S Q) : zk_Ok mid N1 pc ls (.inl x :: st) S Q :=
  zk_br (b := 0 ≤ x) k1 k2 (fun h => (zk_ok_c.mp h).2) (fun g p l e R s m args below meth c H locs cells slots Z la C h2 w1 w2 => by
    have hx : zk_rI x := (zk_ok_c.mp h2).1
    have hy : zk_rI 0 := zk_r0
    exact lv_if_ge C.1 C.2.1 hd ht (fun z => w1 ((zk_I_le hy hx).mp z)) (fun z => w2 (fun q => z ((zk_I_le hy hx).mpr q))))
theorem zk_r_icmp_ge {x y : Int} {off : Int} {tgt : Nat} (hd : decode (zk_cc mid) pc = .ok (.if_icmp .ge off, 3)) (ht : (pc : Int) + off = (tgt : Int)) (k1 : y ≤ x → zk_Ok mid N1 tgt ls st S Q) (k2 : ¬ (y ≤ x) → zk_Ok mid N1 (pc + 3) ls st S Q) : zk_Ok mid N1 pc ls (.inl y :: .inl x :: st) S Q :=
  zk_br (b := y ≤ x) k1 k2 (fun h => (zk_ok_c.mp (zk_ok_c.mp h).2).2) (fun g p l e R s m args below meth c H locs cells slots Z la C h2 w1 w2 => by
    have hx : zk_rI x := (zk_ok_c.mp (zk_ok_c.mp h2).2).1
    have hy : zk_rI y := (zk_ok_c.mp h2).1
    exact lv_icmp_ge C.1 C.2.1 hd ht (fun z => w1 ((zk_I_le hy hx).mp z)) (fun z => w2 (fun q => z ((zk_I_le hy hx).mpr q))))
theorem zk_r_if_gt {x : Int} {off : Int} {tgt : Nat} (hd : decode (zk_cc mid) pc = .ok (.ifCond .gt off, 3)) (ht : (pc : Int) + off = (tgt : Int)) (k1 : 0 < x → zk_Ok mid N1 tgt ls st S Q) (k2 : ¬ (0 < x) → zk_Ok mid N1 (pc + 3) ls st S Q) : zk_Ok mid N1 pc ls (.inl x :: st) S Q :=
  zk_br (b := 0 < x) k1 k2 (fun h => (zk_ok_c.mp h).2) (fun g p l e R s m args below meth c H locs cells slots Z la C h2 w1 w2 => by
    have hx : zk_rI x := (zk_ok_c.mp h2).1
    have hy : zk_rI 0 := zk_r0
    exact lv_if_gt C.1 C.2.1 hd ht (fun z => w1 ((zk_I_lt hy hx).mp z)) (fun z => w2 (fun q => z ((zk_I_lt hy hx).mpr q))))
theorem zk_r_icmp_gt {x y : Int} {off : Int} {tgt : Nat} (hd : decode (zk_cc mid) pc = .ok (.if_icmp .gt off, 3)) (ht : (pc : Int) + off = (tgt : Int)) (k1 : y < x → zk_Ok mid N1 tgt ls st S Q) (k2 : ¬ (y < x) → zk_Ok mid N1 (pc + 3) ls st S Q) : zk_Ok mid N1 pc ls (.inl y :: .inl x :: st) S Q :=
  zk_br (b := y < x) k1 k2 (fun h => (zk_ok_c.mp (zk_ok_c.mp h).2).2) (fun g p l e R s m args below meth c H locs cells slots Z la C h2 w1 w2 => by
    have hx : zk_rI x := (zk_ok_c.mp (zk_ok_c.mp h2).2).1
    have hy : zk_rI y := (zk_ok_c.mp h2).1
    exact lv_icmp_gt C.1 C.2.1 hd ht (fun z => w1 ((zk_I_lt hy hx).mp z)) (fun z => w2 (fun q => z ((zk_I_lt hy hx).mpr q))))
theorem zk_r_if_le {x : Int} {off : Int} {tgt : Nat} (hd : decode (zk_cc mid) pc = .ok (.ifCond .le off, 3)) (ht : (pc : Int) + off = (tgt : Int)) (k1 : x ≤ 0 → zk_Ok mid N1 tgt ls st S Q) (k2 : ¬ (x ≤ 0) → zk_Ok mid N1 (pc + 3) ls st S Q) : zk_Ok mid N1 pc ls (.inl x :: st) S Q :=
  zk_br (b := x ≤ 0) k1 k2 (fun h => (zk_ok_c.mp h).2) (fun g p l e R s m args below meth c H locs cells slots Z la C h2 w1 w2 => by
    have hx : zk_rI x := (zk_ok_c.mp h2).1
    have hy : zk_rI 0 := zk_r0
    exact lv_if_le C.1 C.2.1 hd ht (fun z => w1 ((zk_I_le hx hy).mp z)) (fun z => w2 (fun q => z ((zk_I_le hx hy).mpr q))))
theorem zk_r_icmp_le {x y : Int} {off : Int} {tgt : Nat} (hd : decode (zk_cc mid) pc = .ok (.if_icmp .le off, 3)) (ht : (pc : Int) + off = (tgt : Int)) (k1 : x ≤ y → zk_Ok mid N1 tgt ls st S Q) (k2 : ¬ (x ≤ y) → zk_Ok mid N1 (pc + 3) ls st S Q) : zk_Ok mid N1 pc ls (.inl y :: .inl x :: st) S Q :=
  zk_br (b := x ≤ y) k1 k2 (fun h => (zk_ok_c.mp (zk_ok_c.mp h).2).2) (fun g p l e R s m args below meth c H locs cells slots Z la C h2 w1 w2 => by
    have hx : zk_rI x := (zk_ok_c.mp (zk_ok_c.mp h2).2).1
    have hy : zk_rI y := (zk_ok_c.mp h2).1
    exact lv_icmp_le C.1 C.2.1 hd ht (fun z => w1 ((zk_I_le hx hy).mp z)) (fun z => w2 (fun q => z ((zk_I_le hx hy).mpr q))))
theorem zk_r_ifnull {r : Nat} {off : Int} {tgt : Nat} (hd : decode (zk_cc mid) pc = .ok (.ifnull off, 3)) (ht : (pc : Int) + off = (tgt : Int)) (k1 : r = 0 → zk_Ok mid N1 tgt ls st S Q) (k2 : ¬ (r = 0) → zk_Ok mid N1 (pc + 3) ls st S Q) : zk_Ok mid N1 pc ls (.inr (.inr (.inl r)) :: st) S Q :=
  zk_br k1 k2 (fun h => (zk_ok_c.mp h).2) (fun g p l e R s m args below meth c H locs cells slots Z la C h2 w1 w2 => by
    cases r with
    | zero => exact lv_ifnullN C.1 C.2.1 hd ht (w1 rfl)
    | succ r => exact lv_ifnull C.1 C.2.1 hd (w2 (by omega)))
theorem zk_r_ifnonnull {r : Nat} {off : Int} {tgt : Nat} (hd : decode (zk_cc mid) pc = .ok (.ifnonnull off, 3)) (ht : (pc : Int) + off = (tgt : Int)) (k1 : ¬ r = 0 → zk_Ok mid N1 tgt ls st S Q) (k2 : ¬ (¬ r = 0) → zk_Ok mid N1 (pc + 3) ls st S Q) : zk_Ok mid N1 pc ls (.inr (.inr (.inl r)) :: st) S Q :=
  zk_br k1 k2 (fun h => (zk_ok_c.mp h).2) (fun g p l e R s m args below meth c H locs cells slots Z la C h2 w1 w2 => by
    cases r with
    | zero => exact lv_ifnonnullN C.1 C.2.1 hd (w2 (by omega))
    | succ r => exact lv_ifnonnull C.1 C.2.1 hd ht (w1 (by omega)))
theorem zk_r_tsIn {dflt lo hi x : Int} {offs : Array Int} {len : Nat} {off : Int} {tgt : Nat} (hd : decode (zk_cc mid) pc = .ok (.tableswitch dflt lo hi offs, len)) (h1 : lo ≤ x) (h2 : x ≤ hi) (ho : offs[(x - lo).toNat]? = some off) (ht : (pc : Int) + off = (tgt : Int)) (k : zk_Ok mid N1 tgt ls st S Q) : zk_Ok mid N1 pc ls (.inl x :: st) S Q :=
  zk_go k (fun _ h _ => (zk_ok_c.mp h).2) (fun g p l e R s m args below meth c H locs cells slots Z la C hl q1 q2 _ _ _ w => by
    have hx : (zk_I x).toInt = x := zk_I_toInt (zk_ok_c.mp q2).1
    exact lv_tableIn C.1 C.2.1 hd (by rw [hx]; omega) (by rw [hx]; omega) (by rw [hx]; exact ho) ht w)
theorem zk_r_tsOut {dflt lo hi x : Int} {offs : Array Int} {len : Nat} {tgt : Nat} (hd : decode (zk_cc mid) pc = .ok (.tableswitch dflt lo hi offs, len)) (h1 : x < lo ∨ hi < x) (ht : (pc : Int) + dflt = (tgt : Int)) (k : zk_Ok mid N1 tgt ls st S Q) : zk_Ok mid N1 pc ls (.inl x :: st) S Q :=
  zk_go k (fun _ h _ => (zk_ok_c.mp h).2) (fun g p l e R s m args below meth c H locs cells slots Z la C hl q1 q2 _ _ _ w => by
    have hx : (zk_I x).toInt = x := zk_I_toInt (zk_ok_c.mp q2).1
    exact lv_tableOut C.1 C.2.1 hd (by rw [hx]; exact h1) ht w)
end zk_rules2
end
section
/-! rules: memory, returns, calls -/
theorem zk_in_code {w : Cond} (h : w ∈ zk_wcode) : w ∈ zk_gT := List.mem_append_left _ h
theorem zk_in_kind {w : Cond} (h : w ∈ zk_wkind) : w ∈ zk_gT := List.mem_append_right _ (List.mem_append_left _ h)
theorem zk_in_sel {w : Cond} (h : w ∈ zk_wsel) : w ∈ zk_gT := List.mem_append_right _ (List.mem_append_right _ (List.mem_append_left _ h))
theorem zk_in_ini {w : Cond} (h : w ∈ zk_wini) : w ∈ zk_gT := List.mem_append_right _ (List.mem_append_right _ (List.mem_append_right _ (List.mem_append_left _ h)))
theorem zk_in_LK {w : Cond} (h : w ∈ zk_wLK) : w ∈ zk_gT := List.mem_append_right _ (List.mem_append_right _ (List.mem_append_right _ (List.mem_append_right _ (List.mem_append_left _ h))))
theorem zk_in_AK {w : Cond} (h : w ∈ zk_wAK) : w ∈ zk_gT := List.mem_append_right _ (List.mem_append_right _ (List.mem_append_right _ (List.mem_append_right _ (List.mem_append_right _ (List.mem_append_left _ h)))))
theorem zk_in_OK {w : Cond} (h : w ∈ zk_wOK) : w ∈ zk_gT := List.mem_append_right _ (List.mem_append_right _ (List.mem_append_right _ (List.mem_append_right _ (List.mem_append_right _ (List.mem_append_right _ (List.mem_append_left _ h))))))
theorem zk_in_FL {w : Cond} (h : w ∈ zk_wFL) : w ∈ zk_gT := List.mem_append_right _ (List.mem_append_right _ (List.mem_append_right _ (List.mem_append_right _ (List.mem_append_right _ (List.mem_append_right _ (List.mem_append_right _ (List.mem_append_left _ h)))))))
theorem zk_in_lay {w : Cond} (h : w ∈ zk_wlay) : w ∈ zk_gT := List.mem_append_right _ (List.mem_append_right _ (List.mem_append_right _ (List.mem_append_right _ (List.mem_append_right _ (List.mem_append_right _ (List.mem_append_right _ (List.mem_append_right _ (List.mem_append_left _ h))))))))
theorem zk_in_CL {w : Cond} (h : w ∈ zk_wCL) : w ∈ zk_gT := List.mem_append_right _ (List.mem_append_right _ (List.mem_append_right _ (List.mem_append_right _ (List.mem_append_right _ (List.mem_append_right _ (List.mem_append_right _ (List.mem_append_right _ (List.mem_append_right _ (List.mem_append_left _ h)))))))))
theorem zk_in_new {w : Cond} (h : w ∈ zk_wnew) : w ∈ zk_gT := List.mem_append_right _ (List.mem_append_right _ (List.mem_append_right _ (List.mem_append_right _ (List.mem_append_right _ (List.mem_append_right _ (List.mem_append_right _ (List.mem_append_right _ (List.mem_append_right _ (List.mem_append_right _ (List.mem_append_left _ h))))))))))
theorem zk_in_CT {w : Cond} (h : w ∈ zk_wCT) : w ∈ zk_gT := List.mem_append_right _ (List.mem_append_right _ (List.mem_append_right _ (List.mem_append_right _ (List.mem_append_right _ (List.mem_append_right _ (List.mem_append_right _ (List.mem_append_right _ (List.mem_append_right _ (List.mem_append_right _ (List.mem_append_right _ (List.mem_append_left _ h)))))))))))
theorem zk_in_LT {w : Cond} (h : w ∈ zk_wLT) : w ∈ zk_gT := List.mem_append_right _ (List.mem_append_right _ (List.mem_append_right _ (List.mem_append_right _ (List.mem_append_right _ (List.mem_append_right _ (List.mem_append_right _ (List.mem_append_right _ (List.mem_append_right _ (List.mem_append_right _ (List.mem_append_right _ (List.mem_append_right _ (List.mem_append_left _ h))))))))))))
theorem zk_in_etc {w : Cond} (h : w ∈ zk_wetc) : w ∈ zk_gT := List.mem_append_right _ (List.mem_append_right _ (List.mem_append_right _ (List.mem_append_right _ (List.mem_append_right _ (List.mem_append_right _ (List.mem_append_right _ (List.mem_append_right _ (List.mem_append_right _ (List.mem_append_right _ (List.mem_append_right _ (List.mem_append_right _ (List.mem_append_right _ (List.mem_append_left _ h)))))))))))))
theorem zk_in_jdk {w : Cond} (h : w ∈ zk_wjdk) : w ∈ zk_gT := List.mem_append_right _ (List.mem_append_right _ (List.mem_append_right _ (List.mem_append_right _ (List.mem_append_right _ (List.mem_append_right _ (List.mem_append_right _ (List.mem_append_right _ (List.mem_append_right _ (List.mem_append_right _ (List.mem_append_right _ (List.mem_append_right _ (List.mem_append_right _ (List.mem_append_right _ (h))))))))))))))
theorem zk_lay_in {ci : Nat} (h : ci < 13) : ∀ w ∈ u_ws (zk_cn ci) (zk_TT ci) (zk_nf ci), w ∈ zk_gT := fun w hw => zk_in_lay (List.mem_flatMap.mpr ⟨ci, List.mem_range.mpr h, hw⟩)
theorem zk_cl_at {ci : Nat} (h : ci < 13) : zk_cl[ci]? = some (zk_cn ci, zk_TT ci, zk_nf ci) := by
  unfold zk_cl
  rw [List.getElem?_map, List.getElem?_range h]
  rfl
theorem zk_FL_in {o idx ci i : Nat} (h : (o, idx, ci, i) ∈ zk_FL) : Cond.fieldLink (zk_cn o) idx (zk_TT ci i).1 (zk_TT ci i).2.1 (zk_TT ci i).2.2.1 ∈ zk_gT := zk_in_FL (List.mem_map.mpr ⟨_, h, rfl⟩)
theorem zk_ty_ok : ∀ ci, ci < 13 → ∀ k, k < zk_nf ci → parseFieldDescriptor (zk_TT ci k).2.2.1 = some (zk_ty ci k) := by decide +kernel
theorem zk_nm_ok : ∀ ci, ci < 13 → ∀ a, a < zk_nf ci → ∀ b, b < zk_nf ci → a ≠ b → (zk_TT ci a).2.1 ≠ (zk_TT ci b).2.1 := by decide +kernel
theorem zk_FL_ok : ∀ r ∈ zk_FL, r.2.2.1 < 13 ∧ r.2.2.2 < zk_nf r.2.2.1 := by decide +kernel
theorem zk_encC_o {g : zk_G} {S : zk_S} {k ci : Nat} (h : zk_sh k = ci) (hc : ci < 13) : zk_encC g S k = .inr (ci, zk_fs g S k) := by
  unfold zk_encC
  rw [if_pos (by omega), h]
theorem zk_encC_a {g : zk_G} {S : zk_S} {k t : Nat} (h : zk_sh k = t) (hc : 13 ≤ t) : zk_encC g S k = .inl (zk_aC g t, zk_sz k, zk_ar g S k) := by
  unfold zk_encC
  rw [if_neg (by omega), h]
theorem zk_fs_at {g : zk_G} {S : zk_S} {k ci i : Nat} (h : zk_sh k = ci) (hi : i < zk_nf ci) : (zk_fs g S k)[i]? = some (zk_encF g (zk_ft ci i) (S.2.1 k (i : Int)) (S.2.2 k (i : Int))) := by
  unfold zk_fs
  rw [h, List.getElem?_map, List.getElem?_range hi]
  rfl
theorem zk_one {g : zk_G} {S : zk_S} {H : Heap} {k : Nat} (hR : zk_RH g S H) (h1 : 1 ≤ k) (h2 : k ≤ S.1) : va_P (zk_D g) zk_cl [(zk_a0 g + k, zk_encC g S k)] H := fun j q hq => by
  have hj : j < 1 := (List.getElem?_eq_some_iff.mp hq).1
  rw [show j = 0 by omega] at hq
  cases hq
  exact hR.2.2.1 k h1 h2
def zk_fv (S : zk_S) (k t : Nat) (i : Int) : zk_V := match t with
  | 1 => .inr (.inl (S.2.2 k i))
  | 3 => .inr (.inr (.inl (S.2.1 k i)))
  | _ => .inl (S.2.2 k i)
theorem zk_fv_enc (g : zk_G) (S : zk_S) (k t : Nat) (i : Int) : zk_enc g (zk_fv S k t i) = zk_encF g t (S.2.1 k i) (S.2.2 k i) := by
  match t with
  | 0 => rfl
  | 1 => rfl
  | 2 => rfl
  | 3 => rfl
  | (_ + 4) => rfl
theorem zk_fv_ok {S : zk_S} {k t : Nat} {i : Int} (hM : zk_MG S) (h : t = 1 ∨ zk_lg k i = false) : zk_okV (zk_fv S k t i) := by
  match t, h with
  | 0, h => exact (hM k i).2 (h.resolve_left (by omega))
  | 1, _ => exact (hM k i).1
  | 2, h => exact (hM k i).2 (h.resolve_left (by omega))
  | 3, _ => trivial
  | (_ + 4), h => exact (hM k i).2 (h.resolve_left (by omega))
theorem zk_lg_o {k ci i : Nat} (h : zk_sh k = ci) (hc : ci < 13) : zk_ft ci i = 1 ∨ zk_lg k (i : Int) = false := by
  by_cases e : zk_ft ci i = 1
  · exact Or.inl e
  · right
    unfold zk_lg
    rw [h]
    simp [e]
    omega
theorem zk_lg_a {k t : Nat} (i : Int) (h : zk_sh k = t) (hc : 13 ≤ t) (h2 : t ≠ 101) : zk_lg k i = false := by
  unfold zk_lg
  rw [h]
  have : zk_ft t i.toNat = 0 := by
    unfold zk_ft
    rw [show zk_ftL.getD t [] = [] from by
      rw [List.getD_eq_getElem?_getD, List.getElem?_eq_none (by show 13 ≤ t; exact hc)]; rfl]
    rfl
  rw [this]
  simp [h2]
section zk_rules3
variable {mid N1 pc : Nat} {ls st : List zk_V} {S : zk_S} {Q : Option zk_V → zk_S → Prop}
theorem zk_r_getf {idx ci i k : Nat} (hd : decode (zk_cc mid) pc = .ok (.getfield idx, 3)) (hrow : (zk_own mid, idx, ci, i) ∈ zk_FL) (hsh : zk_sh k = ci) (hk1 : 1 ≤ k) (hk : k ≤ S.1) (kk : zk_Ok mid N1 (pc + 3) ls (zk_fv S k (zk_ft ci i) (i : Int) :: st) S Q) : zk_Ok mid N1 pc ls (.inr (.inr (.inl k)) :: st) S Q := by
  obtain ⟨hci, hi⟩ := zk_FL_ok _ hrow
  refine zk_go kk (fun _ h hM => zk_ok_c.mpr ⟨zk_fv_ok hM (zk_lg_o hsh hci), (zk_ok_c.mp h).2⟩) (fun g p l e R s m args below meth c H locs cells slots Z la C hl h1 h2 hR hM hS w => ?_)
  have hP := zk_one hR hk1 hk
  obtain ⟨k', rfl⟩ : ∃ k', k = k' + 1 := ⟨k - 1, by omega⟩
  have hlink := C.2.2.2.2.1 _ (zk_FL_in hrow)
  rw [List.map_cons, zk_fv_enc] at w
  exact va_get (D := zk_D g) (ci := ci) (C := zk_cn ci) (T := zk_TT ci) (N := zk_nf ci) C.1 C.2.1 C.2.2.2.2.1 (zk_lay_in hci) C.2.2.2.1 C.2.2.2.2.2.1 hP 0 (fs := zk_fs g S (k' + 1)) (by rw [zk_encC_o hsh hci]; rfl) (zk_cl_at hci) i hi hlink (fun _ h => h) (zk_fs_at hsh hi) hd w
theorem zk_arr {g : zk_G} {U : State} (hK : zk_Kn g U) : va_K (zk_D g) zk_cl (zk_tys g) U := hK
/-- reading an array -/
theorem zk_szI_toNat {k : Nat} {i : Int} (h0 : 0 ≤ i) (h1 : i < zk_szI k) : i.toNat < zk_sz k := by unfold zk_szI at h1; omega
theorem zk_sz_small : ∀ k, k < 81 → zk_sz k ≤ 2720 := by decide +kernel
theorem zk_sz_le (k : Nat) : zk_sz k ≤ 2720 := by
  rcases Nat.lt_or_ge k 81 with h | h
  · exact zk_sz_small k h
  · unfold zk_sz
    rw [List.getD_eq_getElem?_getD, List.getElem?_eq_none (by show 81 ≤ k; exact h)]
    show (99, 0).2 ≤ 2720
    omega
theorem zk_vin {k : Nat} {i : Int} (h0 : 0 ≤ i) (h1 : i < zk_szI k) : zk_rI i ∧ vp_in (zk_I i) (zk_sz k) ∧ (zk_I i).toNatClampNeg = i.toNat := by
  have hs := zk_sz_le k
  have h2 := zk_szI_toNat h0 h1
  have hr : zk_rI i := by unfold zk_rI; omega
  refine ⟨hr, ?_, zk_clamp h0 hr⟩
  rw [vp_in_iff, zk_I_toInt hr]
  omega
theorem zk_r_iald {k : Nat} {i : Int} (hd : decode (zk_cc mid) pc = .ok (.iaload, 1)) (hsh : zk_sh k = 100) (hk1 : 1 ≤ k) (hk : k ≤ S.1) (h0 : 0 ≤ i) (h9 : i < zk_szI k) (kk : zk_Ok mid N1 (pc + 1) ls (.inl (S.2.2 k i) :: st) S Q) : zk_Ok mid N1 pc ls (.inl i :: .inr (.inr (.inl k)) :: st) S Q := by
  refine zk_go kk (fun _ h hM => zk_ok_c.mpr ⟨(hM k i).2 (zk_lg_a i hsh (by omega) (by omega)), (zk_ok_c.mp (zk_ok_c.mp h).2).2⟩) (fun g p l e R s m args below meth c H locs cells slots Z la C hl h1 h2 hR hM hS w => ?_)
  have hP := zk_one hR hk1 hk
  obtain ⟨hr, hin, hcl⟩ := zk_vin h0 h9
  obtain ⟨k', rfl⟩ : ∃ k', k = k' + 1 := ⟨k - 1, by omega⟩
  refine va_iald C.1 C.2.1 C.2.2.2.2.2.1 hP 0 0 (cA := zk_aC g 100) (n := zk_sz (k' + 1)) (f := fun j => zk_I (S.2.2 (k' + 1) (j : Int))) (by rw [zk_encC_a hsh (by omega)]; simp only [zk_ar, hsh]; rfl) rfl hin hd ?_
  rw [hcl]
  have e : ((i.toNat : Nat) : Int) = i := by omega
  rw [e]
  exact w
theorem zk_r_zald {k : Nat} {i : Int} (hd : decode (zk_cc mid) pc = .ok (.baload, 1)) (hsh : zk_sh k = 102) (hk1 : 1 ≤ k) (hk : k ≤ S.1) (h0 : 0 ≤ i) (h9 : i < zk_szI k) (kk : zk_Ok mid N1 (pc + 1) ls (.inl (S.2.2 k i) :: st) S Q) : zk_Ok mid N1 pc ls (.inl i :: .inr (.inr (.inl k)) :: st) S Q := by
  refine zk_go kk (fun _ h hM => zk_ok_c.mpr ⟨(hM k i).2 (zk_lg_a i hsh (by omega) (by omega)), (zk_ok_c.mp (zk_ok_c.mp h).2).2⟩) (fun g p l e R s m args below meth c H locs cells slots Z la C hl h1 h2 hR hM hS w => ?_)
  have hP := zk_one hR hk1 hk
  obtain ⟨hr, hin, hcl⟩ := zk_vin h0 h9
  obtain ⟨k', rfl⟩ : ∃ k', k = k' + 1 := ⟨k - 1, by omega⟩
  refine va_zald C.1 C.2.1 C.2.2.2.2.2.1 hP 0 2 (cA := zk_aC g 102) (n := zk_sz (k' + 1)) (f := fun j => zk_I (S.2.2 (k' + 1) (j : Int))) (by rw [zk_encC_a hsh (by omega)]; simp only [zk_ar, hsh]; rfl) rfl hin hd ?_
  rw [hcl]
  have e : ((i.toNat : Nat) : Int) = i := by omega
  rw [e]
  exact w
theorem zk_r_cald {k : Nat} {i : Int} (hd : decode (zk_cc mid) pc = .ok (.caload, 1)) (hsh : zk_sh k = 103) (hk1 : 1 ≤ k) (hk : k ≤ S.1) (h0 : 0 ≤ i) (h9 : i < zk_szI k) (kk : zk_Ok mid N1 (pc + 1) ls (.inl (S.2.2 k i) :: st) S Q) : zk_Ok mid N1 pc ls (.inl i :: .inr (.inr (.inl k)) :: st) S Q := by
  refine zk_go kk (fun _ h hM => zk_ok_c.mpr ⟨(hM k i).2 (zk_lg_a i hsh (by omega) (by omega)), (zk_ok_c.mp (zk_ok_c.mp h).2).2⟩) (fun g p l e R s m args below meth c H locs cells slots Z la C hl h1 h2 hR hM hS w => ?_)
  have hP := zk_one hR hk1 hk
  obtain ⟨hr, hin, hcl⟩ := zk_vin h0 h9
  obtain ⟨k', rfl⟩ : ∃ k', k = k' + 1 := ⟨k - 1, by omega⟩
  refine va_cald C.1 C.2.1 C.2.2.2.2.2.1 hP 0 3 (cA := zk_aC g 103) (n := zk_sz (k' + 1)) (f := fun j => zk_I (S.2.2 (k' + 1) (j : Int))) (by rw [zk_encC_a hsh (by omega)]; simp only [zk_ar, hsh]; rfl) rfl hin hd ?_
  rw [hcl]
  have e : ((i.toNat : Nat) : Int) = i := by omega
  rw [e]
  exact w
theorem zk_r_lald {k : Nat} {i : Int} (hd : decode (zk_cc mid) pc = .ok (.laload, 1)) (hsh : zk_sh k = 101) (hk1 : 1 ≤ k) (hk : k ≤ S.1) (h0 : 0 ≤ i) (h9 : i < zk_szI k) (kk : zk_Ok mid N1 (pc + 1) ls (.inr (.inl (S.2.2 k i)) :: st) S Q) : zk_Ok mid N1 pc ls (.inl i :: .inr (.inr (.inl k)) :: st) S Q := by
  refine zk_go kk (fun _ h hM => zk_ok_c.mpr ⟨(hM k i).1, (zk_ok_c.mp (zk_ok_c.mp h).2).2⟩) (fun g p l e R s m args below meth c H locs cells slots Z la C hl h1 h2 hR hM hS w => ?_)
  have hP := zk_one hR hk1 hk
  obtain ⟨hr, hin, hcl⟩ := zk_vin h0 h9
  obtain ⟨k', rfl⟩ : ∃ k', k = k' + 1 := ⟨k - 1, by omega⟩
  refine va_lald C.1 C.2.1 C.2.2.2.2.2.1 hP 0 1 (cA := zk_aC g 101) (n := zk_sz (k' + 1)) (f := fun j => zk_J (S.2.2 (k' + 1) (j : Int))) (by rw [zk_encC_a hsh (by omega)]; simp only [zk_ar, hsh]; rfl) rfl hin hd ?_
  rw [hcl]
  have e : ((i.toNat : Nat) : Int) = i := by omega
  rw [e]
  exact w
theorem zk_rf_enc (g : zk_G) (r : Nat) : va_rf (zk_optR g r) = zk_encR g r := by cases r <;> rfl
theorem zk_r_aald {k : Nat} {i : Int} (hd : decode (zk_cc mid) pc = .ok (.aaload, 1)) (hsh : zk_sh k = 104) (hk1 : 1 ≤ k) (hk : k ≤ S.1) (h0 : 0 ≤ i) (h9 : i < zk_szI k) (kk : zk_Ok mid N1 (pc + 1) ls (.inr (.inr (.inl (S.2.1 k i))) :: st) S Q) : zk_Ok mid N1 pc ls (.inl i :: .inr (.inr (.inl k)) :: st) S Q := by
  refine zk_go kk (fun _ h hM => zk_ok_c.mpr ⟨trivial, (zk_ok_c.mp (zk_ok_c.mp h).2).2⟩) (fun g p l e R s m args below meth c H locs cells slots Z la C hl h1 h2 hR hM hS w => ?_)
  have hP := zk_one hR hk1 hk
  obtain ⟨hr, hin, hcl⟩ := zk_vin h0 h9
  obtain ⟨k', rfl⟩ : ∃ k', k = k' + 1 := ⟨k - 1, by omega⟩
  have hcell := hP 0 _ rfl
  rw [zk_encC_a hsh (by omega)] at hcell
  have e : ((i.toNat : Nat) : Int) = i := by omega
  have hc2 : H[zk_a0 g + (k' + 1)]? = some (arrV (zk_aC g 104) (zk_sz (k' + 1)) (fun j => va_rf (zk_optR g (S.2.1 (k' + 1) (j : Int))))) := by
    have := hcell
    simp only [va_at, zk_ar, hsh] at this
    exact this
  have hlt : (zk_I i).toNatClampNeg < zk_sz (k' + 1) := Nat.not_le.mp fun q => hin (Or.inr q)
  refine W.aald (v := zk_encR g (S.2.1 (k' + 1) i)) (ty := .object "VeilOfStones$Script") C.1 C.2.1 hc2 ((C.2.2.2.2.2.1.2 4 _ rfl).1 (zk_sz (k' + 1)) _) rfl (fun q => by cases q) (by rw [arrV_size]; exact hin) (by rw [arrV_read _ _ hlt, hcl, e, zk_rf_enc]) rfl rfl hd w
theorem zk_r_alen {k : Nat} (hd : decode (zk_cc mid) pc = .ok (.arraylength, 1)) (hsh : zk_sh k = 100 ∨ zk_sh k = 103) (hk1 : 1 ≤ k) (hk : k ≤ S.1) (kk : zk_Ok mid N1 (pc + 1) ls (.inl (zk_szI k) :: st) S Q) : zk_Ok mid N1 pc ls (.inr (.inr (.inl k)) :: st) S Q := by
  have hs := zk_sz_le k
  refine zk_go kk (fun _ h hM => zk_ok_c.mpr ⟨by show zk_rI _; unfold zk_rI zk_szI; omega, (zk_ok_c.mp h).2⟩) (fun g p l e R s m args below meth c H locs cells slots Z la C hl h1 h2 hR hM hS w => ?_)
  have hP := zk_one hR hk1 hk
  obtain ⟨k', rfl⟩ : ∃ k', k = k' + 1 := ⟨k - 1, by omega⟩
  rcases hsh with hsh | hsh
  · exact va_alen C.1 C.2.1 C.2.2.2.2.2.1 hP 0 0 (cA := zk_aC g 100) (x := (zk_sz (k' + 1), zk_ar g S (k' + 1))) (by rw [zk_encC_a hsh (by omega)]; rfl) (ty := .int) rfl rfl hd w
  · exact va_alen C.1 C.2.1 C.2.2.2.2.2.1 hP 0 3 (cA := zk_aC g 103) (x := (zk_sz (k' + 1), zk_ar g S (k' + 1))) (by rw [zk_encC_a hsh (by omega)]; rfl) (ty := .char) rfl rfl hd w
/-- the script -/
theorem zk_r_sald {i : Int} (hd : decode (zk_cc mid) pc = .ok (.iaload, 1)) (h0 : 0 ≤ i) (h9 : i < S.2.2 0 (-1)) (kk : zk_Ok mid N1 (pc + 1) ls (.inl (S.2.2 0 i) :: st) S Q) : zk_Ok mid N1 pc ls (.inl i :: .inr (.inr (.inr 2)) :: st) S Q := by
  refine zk_go kk (fun _ h hM => zk_ok_c.mpr ⟨(hM 0 i).2 rfl, (zk_ok_c.mp (zk_ok_c.mp h).2).2⟩) (fun g p l e R s m args below meth c H locs cells slots Z la C hl h1 h2 hR hM hS w => ?_)
  obtain ⟨-, -, -, -, hs0, hs9, hT⟩ := C.2.2.2.2.2.2.1
  rw [hR.2.2.2] at h9
  have hr : zk_rI i := by unfold zk_rI; omega
  obtain ⟨cell, q1, q2, q3, q4, q5, q6, q7⟩ := hT.kept (H1 := H) (fun a ha hn => hS.2.1 a ha hn)
  have hcl := zk_clamp h0 hr
  have e : ((i.toNat : Nat) : Int) = i := by omega
  refine W.iald (v := .int (zk_I (zk_sx g i))) C.1 C.2.1 q1 q2 q3 ?_ ?_ rfl rfl hd (by rw [← hR.2.2.2]; exact w)
  · rintro (z | z)
    · have := (zk_I_lt hr zk_r0).mp z
      omega
    · rw [hcl] at z
      omega
  · rw [hcl, q6 _ (by omega)]
    show some (Value.int (zk_I (zk_sx g ((i.toNat : Nat) : Int)))) = _
    rw [e]
theorem zk_r_slen (hd : decode (zk_cc mid) pc = .ok (.arraylength, 1)) (kk : zk_Ok mid N1 (pc + 1) ls (.inl (S.2.2 0 (-1)) :: st) S Q) : zk_Ok mid N1 pc ls (.inr (.inr (.inr 2)) :: st) S Q := by
  refine zk_go kk (fun _ h hM => zk_ok_c.mpr ⟨(hM 0 (-1)).2 rfl, (zk_ok_c.mp h).2⟩) (fun g p l e R s m args below meth c H locs cells slots Z la C hl h1 h2 hR hM hS w => ?_)
  obtain ⟨-, -, -, -, hs0, hs9, hT⟩ := C.2.2.2.2.2.2.1
  obtain ⟨cell, q1, q2, q3, q4, q5, q6, q7⟩ := hT.kept (H1 := H) (fun a ha hn => hS.2.1 a ha hn)
  refine W.alen (n := zk_I (S.2.2 0 (-1))) C.1 C.2.1 q1 q2 ?_ rfl rfl hd w
  rw [q5, hR.2.2.2]
  show nI _ = _
  apply Int32.toInt_inj.mp
  rw [nI_toInt (by omega), zk_I_toInt (by unfold zk_rI; omega)]
  omega
end zk_rules3
end
section
/-! rules: writes, returns, the entry, calls -/
def zk_set (μ : zk_M) (k : Nat) (i x : Int) : zk_M := fun c j => if c = k then (if j = i then x else μ c j) else μ c j
theorem zk_set_s (μ : zk_M) (k : Nat) (i x : Int) : zk_set μ k i x k i = x := by simp [zk_set]
theorem zk_set_o {μ : zk_M} {k c : Nat} {i x : Int} (h : c ≠ k) : zk_set μ k i x c = μ c := by funext j; simp [zk_set, h]
theorem zk_set_n {μ : zk_M} {k c : Nat} {i j x : Int} (h : j ≠ i) : zk_set μ k i x c j = μ c j := by simp [zk_set, h]
theorem zk_encC_congr {g : zk_G} {S S' : zk_S} {j : Nat} (h1 : S'.2.1 j = S.2.1 j) (h2 : S'.2.2 j = S.2.2 j) : zk_encC g S' j = zk_encC g S j := by
  simp only [zk_encC, zk_fs, zk_ar, h1, h2]
theorem zk_RH_set {g : zk_G} {S S' : zk_S} {H H1 : Heap} {k : Nat} (hR : zk_RH g S H) (hk0 : 1 ≤ k) (hS1 : S'.1 = S.1) (hz : H1.size = H.size) (ho : ∀ q : Nat, q ≠ zk_a0 g + k → H1[q]? = H[q]?) (hnew : va_at (zk_D g) zk_cl (zk_a0 g + k, zk_encC g S' k) H1) (hoth : ∀ j, j ≠ k → S'.2.1 j = S.2.1 j ∧ S'.2.2 j = S.2.2 j) : zk_RH g S' H1 := by
  refine ⟨fun h => by rw [hz, hS1]; exact hR.1 (by rw [← hS1]; exact h), by rw [hS1]; exact hR.2.1, fun j h1 h2 => ?_, fun i => ?_⟩
  · by_cases e : j = k
    · rw [e]; exact hnew
    · rw [zk_encC_congr (hoth j e).1 (hoth j e).2]
      exact (hR.2.2.1 j h1 (by rw [← hS1]; exact h2)).kept (ho _ (by omega))
  · rw [(hoth 0 (by omega)).2]
    exact hR.2.2.2 i
theorem zk_MG_set {S : zk_S} {k : Nat} {i x : Int} (hM : zk_MG S) (h1 : zk_rJ x) (h2 : zk_lg k i = false → zk_rI x) : zk_MG (S.1, S.2.1, zk_set S.2.2 k i x) := by
  intro c j
  show zk_rJ (zk_set S.2.2 k i x c j) ∧ (zk_lg c j = false → zk_rI (zk_set S.2.2 k i x c j))
  by_cases e : c = k
  · by_cases e2 : j = i
    · subst e; subst e2
      rw [zk_set_s]
      exact ⟨h1, h2⟩
    · rw [zk_set_n e2]; exact hM c j
  · rw [zk_set_o e]; exact hM c j
/-- a write of one cell: the goal behind it -/
theorem zk_wr {mid N1 pc' : Nat} {ls st' : List zk_V} {S S' : zk_S} {Q : Option zk_V → zk_S → Prop} (kk : zk_Ok mid N1 pc' ls st' S' Q) (hS1 : S'.1 = S.1)
    {g : zk_G} {p : Program} {l : Launch} {e : Env} {R : Room} {s : State} {m : MethodId} {args : Array Value} {below : List Frame} {meth : Method} {c : Code} {Z : State → Prop}
    (C : zk_Cx g mid p R s m args meth c)
    (hr : ∀ (v : Option zk_V) (S' : zk_S) (H : Heap) (locs : List Loc) (cells slots pc' : Nat) (la : Array Slot), Q v S' → (∀ x, v = some x → zk_okV x) → zk_rets mid pc' v → zk_RH g S' H → zk_MG S' → va_S (zk_A g) s.heap H locs → zk_cs N1 S' cells slots →
      S'.1 = N1 + zk_mc mid → zk_SZ S'.1 = zk_SZ N1 + zk_ms mid → W p l e R s m args below meth c H locs cells slots Z (F0 m pc' la (v.toList.map (zk_enc g))))
    {H H1 : Heap} {locs : List Loc} {cells slots k j : Nat} {la : Array Slot} (hl : zk_LR g la (zk_mL mid) ls) (h1 : zk_okL ls) (h2 : zk_okL st') (hR : zk_RH g S H) (hM' : zk_MG S') (hS : va_S (zk_A g) s.heap H locs) (hc : zk_cs N1 S cells slots) (hk0 : 1 ≤ k)
    (hz : H1.size = H.size) (ho : ∀ q : Nat, q ≠ zk_a0 g + k → H1[q]? = H[q]?) (hnew : va_at (zk_D g) zk_cl (zk_a0 g + k, zk_encC g S' k) H1) (hoth : ∀ j, j ≠ k → S'.2.1 j = S.2.1 j ∧ S'.2.2 j = S.2.2 j) :
    W p l e R s m args below meth c H1 (locs ++ [⟨zk_a0 g + k, j⟩]) cells slots Z (F0 m pc' la (st'.map (zk_enc g))) :=
  kk g p l e R s m args below meth c Z C hr H1 _ cells slots la hl h1 h2 (zk_RH_set hR hk0 hS1 hz ho hnew hoth) hM' (hS.put hz ho (show zk_a0 g < zk_a0 g + k by omega)) (by unfold zk_cs at *; rw [hS1]; exact hc)
theorem zk_fs_len {g : zk_G} {S : zk_S} {k ci : Nat} (h : zk_sh k = ci) : (zk_fs g S k).length = zk_nf ci := by simp [zk_fs, h]
section zk_rules4
variable {mid N1 pc : Nat} {ls st : List zk_V} {S S' : zk_S} {Q : Option zk_V → zk_S → Prop}
/-- a field: S' is S with that slot anew -/
theorem zk_r_put {idx ci i k : Nat} {v : zk_V} (hd : decode (zk_cc mid) pc = .ok (.putfield idx, 3)) (hrow : (zk_own mid, idx, ci, i) ∈ zk_FL) (hsh : zk_sh k = ci) (hk1 : 1 ≤ k) (hk : k ≤ S.1)
    (hfin : (zk_TT ci i).2.2.2 = false ∨ ((zk_TT ci i).2.2.2 = true ∧ zk_kd mid = 2 ∧ (zk_TT ci i).1 = zk_cn (zk_own mid))) (hfit : ∀ g, zk_okV v → narrow (zk_ty ci i) (zk_enc g v) = zk_enc g v ∧ fits (zk_ty ci i) (zk_enc g v) = true)
    (hS1 : S'.1 = S.1) (hoth : ∀ j, j ≠ k → S'.2.1 j = S.2.1 j ∧ S'.2.2 j = S.2.2 j) (hown : ∀ g, zk_fs g S' k = (zk_fs g S k).set i (zk_enc g v)) (hMG : zk_MG S → zk_okV v → zk_MG S') (kk : zk_Ok mid N1 (pc + 3) ls st S' Q) : zk_Ok mid N1 pc ls (v :: .inr (.inr (.inl k)) :: st) S Q := by
  intro g p l e R s m args below meth c Z C hr H locs cells slots la hl h1 h2 hR hM hS hcs
  obtain ⟨hci, hi⟩ : ci < 13 ∧ i < zk_nf ci := zk_FL_ok _ hrow
  have hvok := (zk_ok_c.mp h2).1
  have h2c := (zk_ok_c.mp (zk_ok_c.mp h2).2).2
  have hK : va_K (zk_D g) zk_cl (zk_tys g) s := C.2.2.2.2.2.1
  have hts := C.2.2.2.2.1
  have hown0 := C.2.2.2.1
  have hlink := hts _ (zk_FL_in hrow)
  have hap := va_apart (own := zk_cn (zk_own mid)) hts (zk_lay_in hci) (zk_ty ci) (zk_ty_ok ci hci) (zk_nm_ok ci hci) hK (zk_cl_at hci)
  have hat := hR.2.2.1 k hk1 hk
  rw [zk_encC_o hsh hci] at hat
  obtain ⟨r, e1, cell, q1, q2, q3, q4⟩ := hat
  have hr0 : r = (zk_cn ci, zk_TT ci, zk_nf ci) := Option.some.inj (e1.symm.trans (zk_cl_at hci))
  subst hr0
  obtain ⟨hSl, hfc, kC, hkC, hkind⟩ := hK.1 ci _ (zk_cl_at hci)
  obtain ⟨cf, kf, fi, f, hf, hsl⟩ := hSl i hi
  have hst := (u_facts hfc hkC (u_lays hts (zk_lay_in hci) hi) hf).1
  have hd2 := zk_ty_ok ci hci i hi
  obtain ⟨hn, hft⟩ := hfit g hvok
  obtain ⟨k', rfl⟩ : ∃ k', k = k' + 1 := ⟨k - 1, by omega⟩
  have fin : ∀ H1 : Heap, H1[zk_a0 g + (k' + 1)]? = some (cell.setSlot f.slot (zk_enc g v)) → H1.size = H.size → (∀ q, q ≠ zk_a0 g + (k' + 1) → H1[q]? = H[q]?) → W p l e R s m args below meth c H1 (locs ++ [⟨zk_a0 g + (k' + 1), f.slot⟩]) cells slots Z (F0 m (pc + 3) la (st.map (zk_enc g))) := by
    intro H1 g1 g2 g3
    refine zk_wr kk hS1 C hr hl h1 h2c hR (hMG hM hvok) hS hcs hk1 g2 g3 ?_ hoth
    rw [zk_encC_o hsh hci]
    refine ⟨_, zk_cl_at hci, ?_⟩
    rw [hown g]
    rw [hsl] at g1
    exact t_OB.to (V := updV (vp_V (zk_fs g S (k' + 1))) i (zk_enc g v)) ⟨_, g1, q2, q3, t_set q4 hap hi (zk_enc g v)⟩ (fun j _ => vp_updV_set (by rw [zk_fs_len hsh]; exact hi) (zk_enc g v) j)
  rcases hfin with hfin | ⟨hfin, hkd, hdecl⟩
  · have hlay := hts _ (zk_lay_in hci _ (u_in_lay hi))
    unfold u_lay at hlay
    rw [if_neg (by rw [hfin]; decide)] at hlay
    have h6 := u_store hfc hkC hkind hlay hf hd2 hn hft
    exact W.putK C.1 C.2.1 (f := f) ⟨hown0, hlink, ⟨_, _, _, hf⟩, hst⟩ (by rw [q2]; exact h6) q1 q3 (by rw [hsl]; exact k2_hasslot (q4 i hi)) rfl rfl hd fin
  · have hlay := hts _ (zk_lay_in hci _ (u_in_lay hi))
    unfold u_lay at hlay
    rw [if_pos hfin] at hlay
    have hcf : m.cls = cf := by
      obtain ⟨_, _, c', _, _, _, -, -, hf', -, -, -, hown2, -⟩ := Cond.laysFinal_spec hlay
      have e1 : c' = cf := by have := hf.symm.trans hf'; simp at this; exact this.1.symm
      rw [hdecl] at hown2
      rw [← e1]; exact Option.some.inj (hown0.symm.trans hown2)
    have h6 := u_fits hfc hkC hkind (Or.inr hlay) hf hd2 hn hft
    exact W.putFinK C.1 C.2.1 hown0 hlink hf hst hcf (C.2.2.2.2.2.2.2.2.2.2.2.2.1 hkd) (by rw [q2]; exact h6) q1 q3 (by rw [hsl]; exact k2_hasslot (q4 i hi)) rfl rfl hd fin
theorem zk_fs_set {g : zk_G} {S : zk_S} {k ci i : Nat} {x : Int} (hsh : zk_sh k = ci) (hi : i < zk_nf ci) (ht : zk_ft ci i ≠ 3) : zk_fs g (S.1, S.2.1, zk_set S.2.2 k (i : Int) x) k = (zk_fs g S k).set i (zk_encF g (zk_ft ci i) 0 x) := by
  apply List.ext_getElem?
  intro j
  rcases Nat.lt_or_ge j (zk_nf ci) with hj | hj
  · rw [zk_fs_at hsh hj]
    by_cases e : i = j
    · subst e
      rw [List.getElem?_set_self (by rw [zk_fs_len hsh]; exact hi)]
      show some (zk_encF g (zk_ft ci i) (S.2.1 k (i : Int)) (zk_set S.2.2 k (i : Int) x k (i : Int))) = _
      rw [zk_set_s]
      congr 1
      unfold zk_encF
      split <;> first | rfl | (rename_i h; exact absurd h ht)
    · rw [List.getElem?_set_ne e, zk_fs_at hsh hj]
      show some (zk_encF g (zk_ft ci j) (S.2.1 k (j : Int)) (zk_set S.2.2 k (i : Int) x k (j : Int))) = _
      rw [zk_set_n (by omega)]
  · rw [List.getElem?_eq_none (by rw [zk_fs_len hsh]; exact hj), List.getElem?_eq_none (by rw [List.length_set, zk_fs_len hsh]; exact hj)]
theorem zk_ft_ty : ∀ ci, ci < 13 → ∀ i, i < zk_nf ci → (zk_ft ci i = 0 → zk_ty ci i = .int) ∧ (zk_ft ci i = 1 → zk_ty ci i = .long) ∧ (zk_ft ci i = 2 → zk_ty ci i = .boolean) := by decide +kernel
theorem zk_r_puti {idx ci i k : Nat} {x : Int} (hd : decode (zk_cc mid) pc = .ok (.putfield idx, 3)) (hrow : (zk_own mid, idx, ci, i) ∈ zk_FL) (hsh : zk_sh k = ci) (hk1 : 1 ≤ k) (hk : k ≤ S.1) (hfin : (zk_TT ci i).2.2.2 = false) (ht : zk_ft ci i = 0) (kk : zk_Ok mid N1 (pc + 3) ls st (S.1, S.2.1, zk_set S.2.2 k (i : Int) x) Q) : zk_Ok mid N1 pc ls (.inl x :: .inr (.inr (.inl k)) :: st) S Q := by
  obtain ⟨hci, hi⟩ : ci < 13 ∧ i < zk_nf ci := zk_FL_ok _ hrow
  refine zk_r_put (S' := (S.1, S.2.1, zk_set S.2.2 k (i : Int) x)) hd hrow hsh hk1 hk (Or.inl hfin) (fun g _ => ?_) rfl (fun j hj => ⟨rfl, zk_set_o hj⟩) (fun g => ?_) (fun hM hv => zk_MG_set hM (zk_rIJ hv) (fun _ => hv)) kk
  · rw [(zk_ft_ty ci hci i hi).1 ht]; exact ⟨rfl, rfl⟩
  · rw [zk_fs_set hsh hi (by omega), ht]; rfl
theorem zk_r_putz {idx ci i k : Nat} {x : Int} (hd : decode (zk_cc mid) pc = .ok (.putfield idx, 3)) (hrow : (zk_own mid, idx, ci, i) ∈ zk_FL) (hsh : zk_sh k = ci) (hk1 : 1 ≤ k) (hk : k ≤ S.1) (hfin : (zk_TT ci i).2.2.2 = false) (ht : zk_ft ci i = 2) (hx : x = 0 ∨ x = 1) (kk : zk_Ok mid N1 (pc + 3) ls st (S.1, S.2.1, zk_set S.2.2 k (i : Int) x) Q) : zk_Ok mid N1 pc ls (.inl x :: .inr (.inr (.inl k)) :: st) S Q := by
  obtain ⟨hci, hi⟩ : ci < 13 ∧ i < zk_nf ci := zk_FL_ok _ hrow
  refine zk_r_put (S' := (S.1, S.2.1, zk_set S.2.2 k (i : Int) x)) hd hrow hsh hk1 hk (Or.inl hfin) (fun g _ => ?_) rfl (fun j hj => ⟨rfl, zk_set_o hj⟩) (fun g => ?_) (fun hM hv => zk_MG_set hM (zk_rIJ hv) (fun _ => hv)) kk
  · rw [(zk_ft_ty ci hci i hi).2.2 ht]
    rcases hx with rfl | rfl <;> exact ⟨rfl, rfl⟩
  · rw [zk_fs_set hsh hi (by omega), ht]; rfl
theorem zk_r_putl {idx ci i k : Nat} {x : Int} (hd : decode (zk_cc mid) pc = .ok (.putfield idx, 3)) (hrow : (zk_own mid, idx, ci, i) ∈ zk_FL) (hsh : zk_sh k = ci) (hk1 : 1 ≤ k) (hk : k ≤ S.1) (hfin : (zk_TT ci i).2.2.2 = false) (ht : zk_ft ci i = 1) (kk : zk_Ok mid N1 (pc + 3) ls st (S.1, S.2.1, zk_set S.2.2 k (i : Int) x) Q) : zk_Ok mid N1 pc ls (.inr (.inl x) :: .inr (.inr (.inl k)) :: st) S Q := by
  obtain ⟨hci, hi⟩ : ci < 13 ∧ i < zk_nf ci := zk_FL_ok _ hrow
  refine zk_r_put (S' := (S.1, S.2.1, zk_set S.2.2 k (i : Int) x)) hd hrow hsh hk1 hk (Or.inl hfin) (fun g _ => ?_) rfl (fun j hj => ⟨rfl, zk_set_o hj⟩) (fun g => ?_) (fun hM hv => zk_MG_set hM hv (fun hlg => ?_)) kk
  · rw [(zk_ft_ty ci hci i hi).2.1 ht]; exact ⟨rfl, rfl⟩
  · rw [zk_fs_set hsh hi (by omega), ht]; rfl
  · unfold zk_lg at hlg
    rw [hsh] at hlg
    simp [ht] at hlg
/-! arrays -/
theorem zk_arr_at {g : zk_G} {S : zk_S} {H : Heap} {k t : Nat} (hR : zk_RH g S H) (h1 : 1 ≤ k) (h2 : k ≤ S.1) (hsh : zk_sh k = t) (ht : 13 ≤ t) : H[zk_a0 g + k]? = some (vp_cell (zk_aC g t) (zk_sz k, zk_ar g S k)) := by
  have h := hR.2.2.1 k h1 h2
  rw [zk_encC_a hsh ht] at h
  exact h
theorem zk_upd_set {k : Nat} {μ : zk_M} {i x : Int} (h0 : 0 ≤ i) (F : Int → Value) : (fun j : Nat => F (zk_set μ k i x k (j : Int))) = updV (fun j : Nat => F (μ k (j : Int))) i.toNat (F x) := by
  funext j
  by_cases e : j = i.toNat
  · subst e
    have e2 : ((i.toNat : Nat) : Int) = i := by omega
    rw [e2, zk_set_s]
    simp [updV]
  · rw [zk_set_n (by omega)]
    simp [updV, e]
theorem zk_r_iast {k : Nat} {i x : Int} (hd : decode (zk_cc mid) pc = .ok (.iastore, 1)) (hsh : zk_sh k = 100) (hk1 : 1 ≤ k) (hk : k ≤ S.1) (h0 : 0 ≤ i) (h9 : i < zk_szI k) (kk : zk_Ok mid N1 (pc + 1) ls st (S.1, S.2.1, zk_set S.2.2 k i x) Q) : zk_Ok mid N1 pc ls (.inl x :: .inl i :: .inr (.inr (.inl k)) :: st) S Q := by
  intro g p l e R s m args below meth c Z C hr H locs cells slots la hl h1 h2 hR hM hS hcs
  have hvok := (zk_ok_c.mp h2).1
  have h2c := (zk_ok_c.mp (zk_ok_c.mp (zk_ok_c.mp h2).2).2).2
  obtain ⟨hr0, hin, hcl⟩ := zk_vin h0 h9
  have hcell := zk_arr_at hR hk1 hk hsh (by omega)
  have ear : ∀ S : zk_S, zk_ar g S k = .inl fun j => zk_I (S.2.2 k (j : Int)) := fun S => by simp only [zk_ar, hsh]
  rw [ear, vp_cell_i] at hcell
  obtain ⟨k', rfl⟩ : ∃ k', k = k' + 1 := ⟨k - 1, by omega⟩
  refine W.iast C.1 C.2.1 hcell ((C.2.2.2.2.2.1.2 0 _ rfl).1 (zk_sz (k' + 1)) _) (fun q => by cases q) (by rw [arrV_size]; exact hin) rfl rfl hd (fun H1 e1 z oq => ?_)
  refine zk_wr (S := S) kk rfl C hr hl h1 h2c hR (zk_MG_set hM (zk_rIJ hvok) (fun _ => hvok)) hS hcs hk1 z oq ?_ (fun j hj => ⟨rfl, zk_set_o hj⟩)
  rw [zk_encC_a hsh (by omega)]
  show H1[_]? = some (vp_cell _ _)
  rw [e1, ear, vp_cell_i, arrV_store, hcl]
  congr 2
  exact (zk_upd_set (k := k' + 1) (μ := S.2.2) (x := x) h0 (fun z => Value.int (zk_I z))).symm
theorem zk_r_last {k : Nat} {i x : Int} (hd : decode (zk_cc mid) pc = .ok (.lastore, 1)) (hsh : zk_sh k = 101) (hk1 : 1 ≤ k) (hk : k ≤ S.1) (h0 : 0 ≤ i) (h9 : i < zk_szI k) (kk : zk_Ok mid N1 (pc + 1) ls st (S.1, S.2.1, zk_set S.2.2 k i x) Q) : zk_Ok mid N1 pc ls (.inr (.inl x) :: .inl i :: .inr (.inr (.inl k)) :: st) S Q := by
  intro g p l e R s m args below meth c Z C hr H locs cells slots la hl h1 h2 hR hM hS hcs
  have hvok := (zk_ok_c.mp h2).1
  have h2c := (zk_ok_c.mp (zk_ok_c.mp (zk_ok_c.mp h2).2).2).2
  obtain ⟨hr0, hin, hcl⟩ := zk_vin h0 h9
  have hcell := zk_arr_at hR hk1 hk hsh (by omega)
  have ear : ∀ S : zk_S, zk_ar g S k = .inr (.inl fun j => zk_J (S.2.2 k (j : Int))) := fun S => by simp only [zk_ar, hsh]
  rw [ear, vp_cell_l] at hcell
  obtain ⟨k', rfl⟩ : ∃ k', k = k' + 1 := ⟨k - 1, by omega⟩
  refine W.last C.1 C.2.1 hcell ((C.2.2.2.2.2.1.2 1 _ rfl).1 (zk_sz (k' + 1)) _) (fun q => by cases q) (by rw [arrV_size]; exact hin) rfl rfl hd (fun H1 e1 z oq => ?_)
  refine zk_wr (S := S) kk rfl C hr hl h1 h2c hR (zk_MG_set hM hvok (fun hlg => by unfold zk_lg at hlg; rw [hsh] at hlg; simp at hlg)) hS hcs hk1 z oq ?_ (fun j hj => ⟨rfl, zk_set_o hj⟩)
  rw [zk_encC_a hsh (by omega)]
  show H1[_]? = some (vp_cell _ _)
  rw [e1, ear, vp_cell_l, arrV_store, hcl]
  congr 2
  exact (zk_upd_set (k := k' + 1) (μ := S.2.2) (x := x) h0 (fun z => Value.long (zk_J z))).symm
theorem zk_r_zast {k : Nat} {i x : Int} (hd : decode (zk_cc mid) pc = .ok (.bastore, 1)) (hsh : zk_sh k = 102) (hk1 : 1 ≤ k) (hk : k ≤ S.1) (h0 : 0 ≤ i) (h9 : i < zk_szI k) (hx : x = 0 ∨ x = 1) (kk : zk_Ok mid N1 (pc + 1) ls st (S.1, S.2.1, zk_set S.2.2 k i x) Q) : zk_Ok mid N1 pc ls (.inl x :: .inl i :: .inr (.inr (.inl k)) :: st) S Q := by
  intro g p l e R s m args below meth c Z C hr H locs cells slots la hl h1 h2 hR hM hS hcs
  have hvok := (zk_ok_c.mp h2).1
  have h2c := (zk_ok_c.mp (zk_ok_c.mp (zk_ok_c.mp h2).2).2).2
  obtain ⟨hr0, hin, hcl⟩ := zk_vin h0 h9
  have hcell := zk_arr_at hR hk1 hk hsh (by omega)
  have ear : ∀ S : zk_S, zk_ar g S k = .inl fun j => zk_I (S.2.2 k (j : Int)) := fun S => by simp only [zk_ar, hsh]
  rw [ear, vp_cell_i] at hcell
  obtain ⟨k', rfl⟩ : ∃ k', k = k' + 1 := ⟨k - 1, by omega⟩
  refine W.zast C.1 C.2.1 hcell ((C.2.2.2.2.2.1.2 2 _ rfl).1 (zk_sz (k' + 1)) _) (fun q => by cases q) (by rw [arrV_size]; exact hin) rfl rfl hd (fun H1 e1 z oq => ?_)
  refine zk_wr (S := S) kk rfl C hr hl h1 h2c hR (zk_MG_set hM (zk_rIJ hvok) (fun _ => hvok)) hS hcs hk1 z oq ?_ (fun j hj => ⟨rfl, zk_set_o hj⟩)
  have en : narrow .boolean (.int (zk_I x)) = .int (zk_I x) := by rcases hx with rfl | rfl <;> rfl
  rw [zk_encC_a hsh (by omega)]
  show H1[_]? = some (vp_cell _ _)
  rw [e1, ear, vp_cell_i, en, arrV_store, hcl]
  congr 2
  exact (zk_upd_set (k := k' + 1) (μ := S.2.2) (x := x) h0 (fun z => Value.int (zk_I z))).symm
theorem zk_nar_char {x : Int} (h0 : 0 ≤ x) (h1 : x ≤ 65535) : narrow .char (.int (zk_I x)) = .int (zk_I x) := by
  have e : zk_I x = nI x.toNat := by
    apply Int32.toInt_inj.mp
    rw [zk_I_toInt (by unfold zk_rI; omega), nI_toInt (by omega)]
    omega
  rw [e]
  exact (pk_charN (by omega)).1
theorem zk_r_cast {k : Nat} {i x : Int} (hd : decode (zk_cc mid) pc = .ok (.castore, 1)) (hsh : zk_sh k = 103) (hk1 : 1 ≤ k) (hk : k ≤ S.1) (h0 : 0 ≤ i) (h9 : i < zk_szI k) (hx0 : 0 ≤ x) (hx9 : x ≤ 65535) (kk : zk_Ok mid N1 (pc + 1) ls st (S.1, S.2.1, zk_set S.2.2 k i x) Q) : zk_Ok mid N1 pc ls (.inl x :: .inl i :: .inr (.inr (.inl k)) :: st) S Q := by
  intro g p l e R s m args below meth c Z C hr H locs cells slots la hl h1 h2 hR hM hS hcs
  have hvok := (zk_ok_c.mp h2).1
  have h2c := (zk_ok_c.mp (zk_ok_c.mp (zk_ok_c.mp h2).2).2).2
  obtain ⟨hr0, hin, hcl⟩ := zk_vin h0 h9
  have hcell := zk_arr_at hR hk1 hk hsh (by omega)
  have ear : ∀ S : zk_S, zk_ar g S k = .inl fun j => zk_I (S.2.2 k (j : Int)) := fun S => by simp only [zk_ar, hsh]
  rw [ear, vp_cell_i] at hcell
  obtain ⟨k', rfl⟩ : ∃ k', k = k' + 1 := ⟨k - 1, by omega⟩
  refine W.cast C.1 C.2.1 hcell ((C.2.2.2.2.2.1.2 3 _ rfl).1 (zk_sz (k' + 1)) _) (fun q => by cases q) (by rw [arrV_size]; exact hin) rfl rfl hd (fun H1 e1 z oq => ?_)
  refine zk_wr (S := S) kk rfl C hr hl h1 h2c hR (zk_MG_set hM (zk_rIJ hvok) (fun _ => hvok)) hS hcs hk1 z oq ?_ (fun j hj => ⟨rfl, zk_set_o hj⟩)
  rw [zk_encC_a hsh (by omega)]
  show H1[_]? = some (vp_cell _ _)
  rw [e1, ear, vp_cell_i, zk_nar_char hx0 hx9, arrV_store, hcl]
  congr 2
  exact (zk_upd_set (k := k' + 1) (μ := S.2.2) (x := x) h0 (fun z => Value.int (zk_I z))).symm
end zk_rules4
end
section
/-! rules: returns, the entry, calls, the copy of a row -/
section zk_rules5
variable {mid N1 pc : Nat} {ls st : List zk_V} {S S' : zk_S} {Q : Option zk_V → zk_S → Prop}
theorem zk_r_ret {v : Option zk_V} (hq : Q v S) (hv : zk_rets mid pc v) (hN : S.1 = N1 + zk_mc mid) (hZ : zk_SZ S.1 = zk_SZ N1 + zk_ms mid) : zk_Ok mid N1 pc ls v.toList S Q := by
  intro g p l e R s m args below meth c Z C hr H locs cells slots la hl h1 h2 hR hM hS hcs
  exact hr v S H locs cells slots pc la hq (fun x hx => by subst hx; exact (zk_ok_c.mp h2).1) hv hR hM hS hcs hN hZ
/-- the locals at the entry -/
def zk_ent : List zk_V → List zk_V
  | [] => []
  | v :: vs => match v with
    | .inr (.inl _) => v :: .inr (.inr (.inr 0)) :: zk_ent vs
    | _ => v :: zk_ent vs
def zk_loc (as : List zk_V) (n : Nat) : List zk_V := zk_ent as ++ List.replicate (n - (zk_ent as).length) (.inr (.inr (.inr 0)))
theorem zk_ent_c1 {v : zk_V} {vs : List zk_V} (h : ∀ x, v ≠ .inr (.inl x)) : zk_ent (v :: vs) = v :: zk_ent vs := by
  match v, h with
  | .inl x, _ => rfl
  | .inr (.inl x), h => exact absurd rfl (h x)
  | .inr (.inr x), _ => rfl
theorem zk_cat_of {g : zk_G} {v : zk_V} : (∃ x, v = .inr (.inl x) ∧ (zk_enc g v).category = 2) ∨ ((∀ x, v ≠ .inr (.inl x)) ∧ (zk_enc g v).category = 1) := by
  match v with
  | .inl x => exact Or.inr ⟨fun y h => (by cases h), rfl⟩
  | .inr (.inl x) => exact Or.inl ⟨x, rfl, rfl⟩
  | .inr (.inr (.inl 0)) => exact Or.inr ⟨fun y h => (by cases h), rfl⟩
  | .inr (.inr (.inl (k + 1))) => exact Or.inr ⟨fun y h => (by cases h), rfl⟩
  | .inr (.inr (.inr k)) => exact Or.inr ⟨fun y h => (by cases h), rfl⟩
theorem zk_ent_at {g : zk_G} : ∀ (as : List zk_V) (b i : Nat) (v : zk_V), (zk_ent as)[i]? = some v → zk_real v = true → (b + i, zk_enc g v) ∈ lv_args b (as.map (zk_enc g))
  | [], b, i, v, h, _ => by simp [zk_ent] at h
  | a :: as, b, i, v, h, hr => by
    rcases zk_cat_of (g := g) (v := a) with ⟨x, rfl, hc⟩ | ⟨hx, hc⟩
    · rw [List.map_cons, lv_args, if_pos hc]
      match i, h with
      | 0, h => cases h; exact List.mem_cons_self
      | 1, h => cases h; exact absurd hr (by decide)
      | i + 2, h =>
        have := zk_ent_at (g := g) as (b + 2) i v h hr
        rw [show b + 2 + i = b + (i + 2) by omega] at this
        exact List.mem_cons_of_mem _ this
    · rw [List.map_cons, lv_args, if_neg (by omega)]
      rw [zk_ent_c1 hx] at h
      match i, h with
      | 0, h => cases h; exact List.mem_cons_self
      | i + 1, h =>
        have := zk_ent_at (g := g) as (b + 1) i v h hr
        rw [show b + 1 + i = b + (i + 1) by omega] at this
        exact List.mem_cons_of_mem _ this
theorem zk_ent_len {g : zk_G} : ∀ as : List zk_V, (lg_sl (as.map (zk_enc g))).length = (zk_ent as).length
  | [] => rfl
  | a :: as => by
    have ih := zk_ent_len (g := g) as
    rcases zk_cat_of (g := g) (v := a) with ⟨x, rfl, hc⟩ | ⟨hx, hc⟩
    · simp [lg_sl, zk_ent, hc, ih] at *
      omega
    · rw [zk_ent_c1 hx]
      simp [lg_sl, hc, ih] at *
      omega
theorem zk_ok_ent : ∀ as : List zk_V, zk_okL as → zk_okL (zk_ent as)
  | [], _ => zk_ok_n
  | a :: as, h => by
    have ih := zk_ok_ent as (zk_ok_c.mp h).2
    rcases zk_cat_of (g := (0, 0, 0, 0, fun _ => 0, fun _ _ => 0, fun _ => 0, fun _ => 0)) (v := a) with ⟨x, rfl, hc⟩ | ⟨hx, hc⟩
    · exact zk_ok_c.mpr ⟨(zk_ok_c.mp h).1, zk_ok_c.mpr ⟨trivial, ih⟩⟩
    · rw [zk_ent_c1 hx]
      exact zk_ok_c.mpr ⟨(zk_ok_c.mp h).1, ih⟩
theorem zk_ok_loc {as : List zk_V} {n : Nat} (h : zk_okL as) : zk_okL (zk_loc as n) := by
  intro v hv
  rcases List.mem_append.mp hv with h1 | h1
  · exact zk_ok_ent as h v h1
  · rw [(List.mem_replicate.mp h1).2]; trivial
theorem zk_LR_ent {g : zk_G} {as : List zk_V} {n : Nat} (h : (zk_ent as).length ≤ n) : zk_LR g ((lg_sl (as.map (zk_enc g)) ++ List.replicate (n - (lg_sl (as.map (zk_enc g))).length) Slot.unset).toArray) n (zk_loc as n) := by
  have h0 := lv_entry (as.map (zk_enc g)) (n := n) (by rw [zk_ent_len]; exact h)
  refine ⟨h0.1, h0.2.1, fun i v hi hr => ?_⟩
  unfold zk_loc at hi
  rcases Nat.lt_or_ge i (zk_ent as).length with hlt | hge
  · rw [List.getElem?_append_left hlt] at hi
    have := zk_ent_at (g := g) as 0 i v hi hr
    rw [Nat.zero_add] at this
    exact h0.2.2 _ this
  · rw [List.getElem?_append_right hge] at hi
    have := List.mem_of_getElem? hi
    rw [(List.mem_replicate.mp this).2] at hr
    exact absurd hr (by decide)
/-- the entry: a contract out of the walk from 0 -/
theorem zk_enter {as : List zk_V} (hpl : plainName (zk_yn mid).cls = true) (hlen : (zk_ent as).length ≤ zk_mL mid) (hkd : zk_kd mid = 2 → (zk_yn mid).name = "<init>") (k : zk_Ok mid S.1 0 (zk_loc as (zk_mL mid)) [] S Q) : zk_Ct mid as S Q := by
  intro l g
  refine Met.ofW (cc := zk_cc mid) (maxL := zk_mL mid) (ret := zk_rt mid) hpl rfl ?_
  intro p e s m args below meth c s₁ B hml hv
  obtain ⟨rfl, hoka, hR, hM, hK, hOd, hOw, hsz⟩ := hv
  have hx := B.exec
  have hb := B.bytes
  have hr := B.returns
  have hts := atoms_spec (ws := zk_ws mid) B.pre
  have hown : s.vm.findClass (zk_yn mid).cls = some m.cls := findClass_of_methodNamed B.named
  have hlocks := B.notSynchronized
  have hin : meth.name = (zk_yn mid).name := (name_of_methodNamed B.named B.method).1
  rw [lg_entry_eq]
  refine k g p l e _ s m _ below meth c _ ⟨hx, hb, hml, hown, fun w hw => hts w (List.mem_cons_of_mem _ hw), hK, hOd, hOw, Nat.le_refl _, Nat.le_refl _, Nat.le_refl _, Nat.le_refl _, fun h => hin.trans (hkd h), hsz⟩ ?_ s.heap [] 0 0 _ (zk_LR_ent hlen) (zk_ok_loc hoka) zk_ok_n hR hM va_S.rf ⟨by omega, by omega⟩
  intro v S' H locs cells slots pc' la hq hok hrt hR' hM' hS hcs hN hZ
  refine W.widen (k := zk_mc mid) (n := zk_ms mid) (by have := hcs.1; omega) (by have := hcs.2; omega) ?_
  have hQ : ∀ t : State, t.heap = H → s.WarmedH t.vm → zk_Qc g mid S Q (as.map (zk_enc g)).toArray s (.returned (v.map (zk_enc g))) t := fun t ht hW => ⟨⟨v, S', rfl, hok, hq, by rw [ht]; exact hR', hM', hN, hZ⟩, hS.F ht⟩
  match v, hrt with
  | none, hrt =>
    exact W.vret hx hb (hr.trans hrt.2) hQ hS.2.2 hrt.1
  | some (.inl x), hrt =>
    obtain ⟨hd, ty, hty, hn⟩ := hrt
    exact W.zret hx hb (hr.trans hty) hn hQ hS.2.2 hd
  | some (.inr (.inl x)), hrt =>
    exact W.lret hx hb (hr.trans hrt.2) hQ hS.2.2 hrt.1
  | some (.inr (.inr (.inl r))), hrt =>
    obtain ⟨hd, nm, hty⟩ := hrt
    exact W.aret hx hb (hr.trans hty) (Or.inl ⟨nm, rfl⟩) (by cases r with
      | zero => exact Or.inl rfl
      | succ r => exact Or.inr ⟨_, rfl⟩) hQ hS.2.2 hd
theorem zk_Pc_blind {g : zk_G} {as : List zk_V} : FrameBlind (zk_Pc g as S) := fun a U g' mk h =>
  ⟨h.1, h.2.1, h.2.2.1, h.2.2.2.1, va_K.moved (u := U) (U := U.calling g' mk a) (Vm.Alike.refl U.vm) h.2.2.2.2.1, zk_Od.moved (u := U) (U := U.calling g' mk a) (Vm.Alike.refl U.vm) h.2.2.2.2.2.1, zk_Ow.same (u := U) (U := U.calling g' mk a) rfl h.2.2.2.2.2.2.1, h.2.2.2.2.2.2.2⟩
theorem zk_gT_word {w : Cond} (h : w ∈ zk_gT) : goodWord w = true := by
  have := (zk_gT_good w h).2
  rcases this with h1 | ⟨ty, rfl⟩
  · cases w <;> first | exact h1 | rfl
  · rfl
theorem zk_code_in {callee : Nat} (h : callee < zk_mtab.length) : Cond.code (zk_yn callee) (zk_cc callee) (zk_mL callee) (zk_rt callee) ∈ zk_gT := by
  have hm : zk_mr callee ∈ zk_mtab := by
    unfold zk_mr
    rw [List.getD_eq_getElem?_getD, List.getElem?_append_left h, List.getElem?_eq_getElem h]
    exact List.getElem_mem h
  exact zk_in_code (List.mem_map.mpr ⟨_, hm, rfl⟩)
theorem zk_mr_in {callee : Nat} (h : callee < zk_mtab.length) : zk_mr callee ∈ zk_mtab := by
  unfold zk_mr
  rw [List.getD_eq_getElem?_getD, List.getElem?_append_left h, List.getElem?_eq_getElem h]
  exact List.getElem_mem h
theorem zk_pre {g : zk_G} {p : Program} {R : Room} {s : State} {m : MethodId} {args : Array Value} {meth : Method} {c : Code} {H : Heap} {locs : List Loc} {as : List zk_V} (C : zk_Cx g mid p R s m args meth c) (hoka : zk_okL as) (hR : zk_RH g S H) (hM : zk_MG S) (hS : va_S (zk_A g) s.heap H locs) : ∀ U : State, U.heap = H → s.WarmedH U.vm → zk_Pc g as S (as.map (zk_enc g)).toArray U := fun U hU hW =>
  ⟨rfl, hoka, by rw [hU]; exact hR, hM, va_K.moved hW.alike C.2.2.2.2.2.1, zk_Od.moved hW.alike (by rw [hU]; exact C.2.2.2.2.2.2.1.kept (fun a ha hn => hS.2.1 a ha hn)), C.2.2.2.2.2.2.2.1.warm hW, by rw [hU]; exact Nat.le_trans C.2.2.2.2.2.2.2.2.2.2.2.2.2 hS.1⟩
end zk_rules5
end
section
/-! rules: calls -/
theorem zk_mt_ok : ∀ r ∈ zk_mtab, (zk_cn r.1 ≠ "java/lang/invoke/MethodHandle" ∧ zk_cn r.1 ≠ "java/lang/invoke/VarHandle") ∧ (parseMethodDescriptor r.2.2.1).map (fun d => d.parameters.length) = some r.2.2.2.2.2.2.2.2.2 ∧ r.1 < zk_cnL.length := by decide +kernel
def zk_catS : List zk_V → Nat
  | [] => 0
  | .inr (.inl _) :: st => 2 + zk_catS st
  | _ :: st => 1 + zk_catS st
theorem zk_catS_eq {g : zk_G} : ∀ st : List zk_V, ((st.map (zk_enc g)).map fun v => v.category).sum = zk_catS st
  | [] => rfl
  | .inl x :: st => by rw [List.map_cons, List.map_cons, List.sum_cons, zk_catS_eq st]; rfl
  | .inr (.inl x) :: st => by rw [List.map_cons, List.map_cons, List.sum_cons, zk_catS_eq st]; rfl
  | .inr (.inr (.inl 0)) :: st => by rw [List.map_cons, List.map_cons, List.sum_cons, zk_catS_eq st]; rfl
  | .inr (.inr (.inl (k + 1))) :: st => by rw [List.map_cons, List.map_cons, List.sum_cons, zk_catS_eq st]; rfl
  | .inr (.inr (.inr k)) :: st => by rw [List.map_cons, List.map_cons, List.sum_cons, zk_catS_eq st]; rfl
section zk_rules6
variable {mid N1 pc : Nat} {ls st : List zk_V} {S S' : zk_S} {Q Q1 : Option zk_V → zk_S → Prop} {idx callee k : Nat} {as : List zk_V}
theorem zk_words_at {g : zk_G} {p : Program} {R : Room} {s : State} {m : MethodId} {args : Array Value} {meth : Method} {c : Code} (C : zk_Cx g mid p R s m args meth c) (h : callee < zk_mtab.length) : ∀ w ∈ zk_ws callee, ∀ (a' : Array Value) (U : State), s.WarmedH U.vm → w.before a' U = true := by
  intro w hw a' U hW
  have hin : w ∈ zk_gT := by
    rcases List.mem_cons.mp hw with rfl | h1
    · exact zk_code_in h
    · exact h1
  exact word_at hW (good_of_word (zk_gT_word hin)) (C.2.2.2.2.1 w hin)
theorem zk_callB {g : zk_G} {p : Program} {R : Room} {s : State} {m : MethodId} {args : Array Value} {meth : Method} {c : Code} (C : zk_Cx g mid p R s m args meth c) (h : callee < zk_mtab.length) (hfr : zk_fr callee + 1 ≤ zk_fr mid) (hlo : 8 + (zk_mL callee + 11) + zk_lo callee ≤ zk_lo mid) (hrow : (zk_own mid, idx, callee) ∈ zk_LK) :
    CallB R s args (zk_cn (zk_own mid)) idx (zk_yn callee) (zk_cc callee) (zk_mL callee) (zk_rt callee) (zk_ws callee) (zk_rm callee) (zk_mc callee) (zk_ms callee) (zk_np callee) := by
  obtain ⟨hne, hpar, hcn⟩ := zk_mt_ok _ (zk_mr_in h)
  refine ⟨rfl, rfl, Nat.le_trans hfr C.2.2.2.2.2.2.2.2.1, Nat.le_trans hlo C.2.2.2.2.2.2.2.2.2.1, zk_words_at C h, List.mem_cons_self, C.2.2.2.2.1 _ (zk_code_in h), C.2.2.2.2.1 _ (zk_in_ini (List.mem_map.mpr ⟨zk_cn (zk_mr callee).1, ?_, rfl⟩)), hne, fun sig hs => ?_, C.2.2.2.2.1 _ (zk_in_LK (List.mem_map.mpr ⟨_, hrow, rfl⟩))⟩
  · unfold zk_cn
    rw [List.getD_eq_getElem?_getD, List.getElem?_eq_getElem hcn]
    exact List.getElem_mem hcn
  · have h2 := hpar
    rw [show (zk_mr callee).2.2.1 = (zk_yn callee).desc from rfl, hs] at h2
    exact (Option.some.inj h2).symm
theorem zk_kind_in (h : callee < zk_mtab.length) : (if zk_kd callee = 1 then Cond.static (zk_yn callee) else Cond.instanceMethod (zk_yn callee)) ∈ zk_gT := zk_in_kind (List.mem_map.mpr ⟨_, zk_mr_in h, rfl⟩)
theorem zk_sel_in (h : callee < zk_mtab.length) (hk : zk_kd callee = 0) : Cond.selects (zk_cn (zk_own callee)) (zk_yn callee) (zk_yn callee) ∈ zk_gT := zk_in_sel (List.mem_map.mpr ⟨_, List.mem_filter.mpr ⟨zk_mr_in h, by have : (zk_mr callee).2.2.2.2.2.2.2.2.1 = 0 := hk; simp [this]⟩, rfl⟩)
/-- behind a call -/
theorem zk_after (kk : ∀ v S', Q1 v S' → zk_Ok mid N1 (pc + 3) ls (v.toList ++ st) S' Q)
    {g : zk_G} {p : Program} {l : Launch} {e : Env} {R : Room} {s : State} {m : MethodId} {args : Array Value} {below : List Frame} {meth : Method} {c : Code} {Z : State → Prop}
    (C : zk_Cx g mid p R s m args meth c)
    (hr : ∀ (v : Option zk_V) (S' : zk_S) (H : Heap) (locs : List Loc) (cells slots pc' : Nat) (la : Array Slot), Q v S' → (∀ x, v = some x → zk_okV x) → zk_rets mid pc' v → zk_RH g S' H → zk_MG S' → va_S (zk_A g) s.heap H locs → zk_cs N1 S' cells slots →
      S'.1 = N1 + zk_mc mid → zk_SZ S'.1 = zk_SZ N1 + zk_ms mid → W p l e R s m args below meth c H locs cells slots Z (F0 m pc' la (v.toList.map (zk_enc g))))
    {H : Heap} {locs : List Loc} {cells slots : Nat} {la : Array Slot} (hl : zk_LR g la (zk_mL mid) ls) (h1 : zk_okL ls) (h2 : zk_okL st) (hS : va_S (zk_A g) s.heap H locs) (hc : zk_cs N1 S cells slots) {st0 : List Value} {a : Array Value}
    (hrun : va_Run p l e R s m args below meth c H locs cells slots (zk_mc callee) (zk_ms callee) (F0 m pc la st0) (st.map (zk_enc g)) (zk_Qc g callee S Q1 a) (zk_A g)) : W p l e R s m args below meth c H locs cells slots Z (F0 m pc la st0) := by
  intro T hT X
  obtain ⟨v, st₀, t, T', L, e0, X', hL, e1, e2, ⟨⟨v', S', hv, hok, hq, hR', hM', hN', hZ'⟩, hz, hkp⟩, hst⟩ := hrun T hT X
  cases hv
  rw [e0] at hz hkp
  have hS' : va_S (zk_A g) s.heap t.heap (locs ++ L) := by
    refine ⟨Nat.le_trans hS.1 hz, fun q g1 g2 => by rw [hkp q (Nat.lt_of_lt_of_le g1 hS.1) g2]; exact hS.2.1 q g1 g2, fun q hq => ?_⟩
    rcases List.mem_append.mp hq with h | h
    · exact hS.2.2 q h
    · exact hL q h
  have hst' : (v'.toList ++ st).map (zk_enc g) = (v'.map (zk_enc g)).toList ++ st.map (zk_enc g) := by
    cases v' <;> rfl
  have hw := kk v' S' hq g p l e R s m args below meth c Z C hr t.heap (locs ++ L) (cells + zk_mc callee) (slots + zk_ms callee) la hl h1 (by
    intro x hx
    rcases List.mem_append.mp hx with h | h
    · cases v' with
      | none => simp at h
      | some y => simp at h; rw [h]; exact hok y rfl
    · exact h2 x h) hR' hM' hS' ⟨by have := hc.1; omega, by have := hc.2; omega⟩
  rw [hst'] at hw
  obtain ⟨t2, a1, b1⟩ := hw T' e1 X'
  exact ⟨t2, hst t2 a1, b1⟩
theorem zk_ok_app {a b : List zk_V} (h : zk_okL (a ++ b)) : zk_okL a ∧ zk_okL b := ⟨fun v hv => h v (List.mem_append_left _ hv), fun v hv => h v (List.mem_append_right _ hv)⟩
theorem zk_ok_rev {a : List zk_V} (h : zk_okL a.reverse) : zk_okL a := fun v hv => h v (List.mem_reverse.mpr hv)
theorem zk_r_invV (hd : decode (zk_cc mid) pc = .ok (.invokevirtual idx, 3)) (hrow : (zk_own mid, idx, callee) ∈ zk_LK) (hcal : callee < zk_mtab.length) (hkd : zk_kd callee = 0) (ho : zk_own callee < 13) (hsh : zk_sh k = zk_own callee) (hk1 : 1 ≤ k) (hk : k ≤ S.1) (hn : as.length = zk_np callee) (hcat : zk_catS st ≤ 8)
    (hfr : zk_fr callee + 1 ≤ zk_fr mid) (hlo : 8 + (zk_mL callee + 11) + zk_lo callee ≤ zk_lo mid) (hb1 : S.1 + zk_mc callee ≤ N1 + zk_mc mid) (hb2 : zk_SZ S.1 + zk_ms callee ≤ zk_SZ N1 + zk_ms mid)
    (hct : zk_Ct callee (.inr (.inr (.inl k)) :: as) S Q1) (kk : ∀ v S', Q1 v S' → zk_Ok mid N1 (pc + 3) ls (v.toList ++ st) S' Q) : zk_Ok mid N1 pc ls (as.reverse ++ .inr (.inr (.inl k)) :: st) S Q := by
  intro g p l e R s m args below meth c Z C hr H locs cells slots la hl h1 h2 hR hM hS hcs
  have hst := (zk_ok_c.mp (zk_ok_app h2).2).2
  have has := zk_ok_rev (zk_ok_app h2).1
  obtain ⟨k', rfl⟩ : ∃ k', k = k' + 1 := ⟨k - 1, by omega⟩
  have hrec : ∃ cell : Cell, H[zk_a0 g + (k' + 1)]? = some cell ∧ cell.vm.isStatics = false ∧ s.vm.findClass (zk_cn (zk_own callee)) = some cell.cls := va_recv (q := (zk_cn (zk_own callee), zk_TT (zk_own callee), zk_nf (zk_own callee))) (fs := zk_fs g S (k' + 1)) (q0 := 0) C.2.2.2.2.2.1 (zk_one hR hk1 hk) (zk_cl_at ho) (by rw [zk_encC_o hsh ho]; rfl)
  have hki := zk_kind_in hcal
  rw [if_neg (by omega)] at hki
  have hw := va_runV (g := F0 m pc la (((as.reverse ++ .inr (.inr (.inl (k' + 1))) :: st)).map (zk_enc g))) (rest := st.map (zk_enc g)) (As := as.map (zk_enc g)) (b := zk_a0 g + (k' + 1)) (C := zk_cn (zk_own callee)) (below := below) (H := H) (locs := locs) (cells := cells) (slots := slots) (e := e) (meth := meth) ⟨C.1, C.2.1, C.2.2.1, C.2.2.2.1, C.2.2.2.2.1⟩ (hct l g) ⟨zk_callB C hcal hfr hlo hrow, C.2.2.2.2.1 _ hki, C.2.2.2.2.1 _ (zk_sel_in hcal hkd)⟩ ⟨zk_Pc_blind, hrec, zk_pre (as := .inr (.inr (.inl (k' + 1))) :: as) C (zk_ok_c.mpr ⟨trivial, has⟩) hR hM hS⟩ rfl (by rw [List.length_map]; exact hn) (hl.1) (by show List.map _ _ = _; rw [List.map_append, List.map_reverse]; rfl) (lv_room (by rw [zk_catS_eq]; exact hcat)) hd ⟨by have := hcs.1; have := C.2.2.2.2.2.2.2.2.2.2.1; omega, by have := hcs.2; have := C.2.2.2.2.2.2.2.2.2.2.2.1; omega⟩
  exact zk_after kk C hr hl h1 hst hS hcs hw
theorem zk_r_invVS (hd : decode (zk_cc mid) pc = .ok (.invokevirtual idx, 3)) (hrow : (zk_own mid, idx, callee) ∈ zk_LK) (hcal : callee < zk_mtab.length) (hkd : zk_kd callee = 0) (ho : zk_cn (zk_own callee) = "java/lang/String") (hn : as.length = zk_np callee) (hcat : zk_catS st ≤ 8)
    (hfr : zk_fr callee + 1 ≤ zk_fr mid) (hlo : 8 + (zk_mL callee + 11) + zk_lo callee ≤ zk_lo mid) (hb1 : S.1 + zk_mc callee ≤ N1 + zk_mc mid) (hb2 : zk_SZ S.1 + zk_ms callee ≤ zk_SZ N1 + zk_ms mid)
    (hct : zk_Ct callee (.inr (.inr (.inr 1)) :: as) S Q1) (kk : ∀ v S', Q1 v S' → zk_Ok mid N1 (pc + 3) ls (v.toList ++ st) S' Q) : zk_Ok mid N1 pc ls (as.reverse ++ .inr (.inr (.inr 1)) :: st) S Q := by
  intro g p l e R s m args below meth c Z C hr H locs cells slots la hl h1 h2 hR hM hS hcs
  have hst := (zk_ok_c.mp (zk_ok_app h2).2).2
  have has := zk_ok_rev (zk_ok_app h2).1
  have hrec : ∃ cell : Cell, H[zk_tx g]? = some cell ∧ cell.vm.isStatics = false ∧ s.vm.findClass (zk_cn (zk_own callee)) = some cell.cls := by
    rw [ho]
    exact vk_recv (i := 0) C.2.2.2.2.2.2.1.1 (by omega) hS
  have hki := zk_kind_in hcal
  rw [if_neg (by omega)] at hki
  have hw := va_runV (g := F0 m pc la (((as.reverse ++ .inr (.inr (.inr 1)) :: st)).map (zk_enc g))) (rest := st.map (zk_enc g)) (As := as.map (zk_enc g)) (b := zk_tx g) (C := zk_cn (zk_own callee)) (below := below) (H := H) (locs := locs) (cells := cells) (slots := slots) (e := e) (meth := meth) ⟨C.1, C.2.1, C.2.2.1, C.2.2.2.1, C.2.2.2.2.1⟩ (hct l g) ⟨zk_callB C hcal hfr hlo hrow, C.2.2.2.2.1 _ hki, C.2.2.2.2.1 _ (zk_sel_in hcal hkd)⟩ ⟨zk_Pc_blind, hrec, zk_pre (as := .inr (.inr (.inr 1)) :: as) C (zk_ok_c.mpr ⟨trivial, has⟩) hR hM hS⟩ rfl (by rw [List.length_map]; exact hn) (hl.1) (by show List.map _ _ = _; rw [List.map_append, List.map_reverse]; rfl) (lv_room (by rw [zk_catS_eq]; exact hcat)) hd ⟨by have := hcs.1; have := C.2.2.2.2.2.2.2.2.2.2.1; omega, by have := hcs.2; have := C.2.2.2.2.2.2.2.2.2.2.2.1; omega⟩
  exact zk_after kk C hr hl h1 hst hS hcs hw
theorem zk_r_invS (hd : decode (zk_cc mid) pc = .ok (.invokestatic idx, 3)) (hrow : (zk_own mid, idx, callee) ∈ zk_LK) (hcal : callee < zk_mtab.length) (hkd : zk_kd callee = 1) (hn : as.length = zk_np callee) (hcat : zk_catS st ≤ 8)
    (hfr : zk_fr callee + 1 ≤ zk_fr mid) (hlo : 8 + (zk_mL callee + 11) + zk_lo callee ≤ zk_lo mid) (hb1 : S.1 + zk_mc callee ≤ N1 + zk_mc mid) (hb2 : zk_SZ S.1 + zk_ms callee ≤ zk_SZ N1 + zk_ms mid)
    (hct : zk_Ct callee as S Q1) (kk : ∀ v S', Q1 v S' → zk_Ok mid N1 (pc + 3) ls (v.toList ++ st) S' Q) : zk_Ok mid N1 pc ls (as.reverse ++ st) S Q := by
  intro g p l e R s m args below meth c Z C hr H locs cells slots la hl h1 h2 hR hM hS hcs
  have hst := (zk_ok_app h2).2
  have has := zk_ok_rev (zk_ok_app h2).1
  have hki := zk_kind_in hcal
  rw [if_pos hkd] at hki
  have hw := va_runS (g := F0 m pc la ((as.reverse ++ st).map (zk_enc g))) (rest := st.map (zk_enc g)) (As := as.map (zk_enc g)) (below := below) (H := H) (locs := locs) (cells := cells) (slots := slots) (e := e) (meth := meth) ⟨C.1, C.2.1, C.2.2.1, C.2.2.2.1, C.2.2.2.2.1⟩ (hct l g) ⟨zk_callB C hcal hfr hlo hrow, C.2.2.2.2.1 _ hki⟩ ⟨zk_Pc_blind, zk_pre C has hR hM hS⟩ rfl (by rw [List.length_map]; exact hn) (hl.1) (by show List.map _ _ = _; rw [List.map_append, List.map_reverse]) (lv_room (by rw [zk_catS_eq]; exact hcat)) hd ⟨by have := hcs.1; have := C.2.2.2.2.2.2.2.2.2.2.1; omega, by have := hcs.2; have := C.2.2.2.2.2.2.2.2.2.2.2.1; omega⟩
  exact zk_after kk C hr hl h1 hst hS hcs hw
theorem zk_r_invI (hd : decode (zk_cc mid) pc = .ok (.invokespecial idx, 3)) (hrow : (zk_own mid, idx, callee) ∈ zk_LK) (hcal : callee < zk_mtab.length) (hkd : zk_kd callee = 2) (hnm : (zk_yn callee).name = "<init>") (hrt : zk_rt callee = none) (hk1 : 1 ≤ k) (hn : as.length = zk_np callee) (hcat : zk_catS st ≤ 8)
    (hfr : zk_fr callee + 1 ≤ zk_fr mid) (hlo : 8 + (zk_mL callee + 11) + zk_lo callee ≤ zk_lo mid) (hb1 : S.1 + zk_mc callee ≤ N1 + zk_mc mid) (hb2 : zk_SZ S.1 + zk_ms callee ≤ zk_SZ N1 + zk_ms mid)
    (hct : zk_Ct callee (.inr (.inr (.inl k)) :: as) S Q1) (kk : ∀ v S', Q1 v S' → zk_Ok mid N1 (pc + 3) ls (v.toList ++ st) S' Q) : zk_Ok mid N1 pc ls (as.reverse ++ .inr (.inr (.inl k)) :: st) S Q := by
  intro g p l e R s m args below meth c Z C hr H locs cells slots la hl h1 h2 hR hM hS hcs
  have hst := (zk_ok_c.mp (zk_ok_app h2).2).2
  have has := zk_ok_rev (zk_ok_app h2).1
  obtain ⟨k', rfl⟩ : ∃ k', k = k' + 1 := ⟨k - 1, by omega⟩
  have hki := zk_kind_in hcal
  rw [if_neg (by omega)] at hki
  have hcb := zk_callB C hcal hfr hlo hrow
  rw [hrt] at hcb
  have hw := va_runI (g := F0 m pc la (((as.reverse ++ .inr (.inr (.inl (k' + 1))) :: st)).map (zk_enc g))) (rest := st.map (zk_enc g)) (As := as.map (zk_enc g)) (b := zk_a0 g + (k' + 1)) (below := below) (H := H) (locs := locs) (cells := cells) (slots := slots) (e := e) (meth := meth) ⟨C.1, C.2.1, C.2.2.1, C.2.2.2.1, C.2.2.2.2.1⟩ (hct l g) ⟨hcb, hnm, C.2.2.2.2.1 _ hki⟩ ⟨zk_Pc_blind, zk_pre (as := .inr (.inr (.inl (k' + 1))) :: as) C (zk_ok_c.mpr ⟨trivial, has⟩) hR hM hS⟩ rfl (by rw [List.length_map]; exact hn) (hl.1) (by show List.map _ _ = _; rw [List.map_append, List.map_reverse]; rfl) (lv_room (by rw [zk_catS_eq]; exact hcat)) hd ⟨by have := hcs.1; have := C.2.2.2.2.2.2.2.2.2.2.1; omega, by have := hcs.2; have := C.2.2.2.2.2.2.2.2.2.2.2.1; omega⟩
  exact zk_after kk C hr hl h1 hst hS hcs hw
/-- a nest mate's constructor -/
theorem zk_r_invN {host : String} (hd : decode (zk_cc mid) pc = .ok (.invokespecial idx, 3)) (hrow : (zk_own mid, idx, callee, host) ∈ zk_nst) (hcal : callee < zk_mtab.length) (hkd : zk_kd callee = 2) (hnm : (zk_yn callee).name = "<init>") (hrt : zk_rt callee = none) (hk1 : 1 ≤ k) (hn : as.length = zk_np callee) (hcat : zk_catS st ≤ 8)
    (hfr : zk_fr callee + 1 ≤ zk_fr mid) (hlo : 8 + (zk_mL callee + 11) + zk_lo callee ≤ zk_lo mid) (hb1 : S.1 + zk_mc callee ≤ N1 + zk_mc mid) (hb2 : zk_SZ S.1 + zk_ms callee ≤ zk_SZ N1 + zk_ms mid)
    (hct : zk_Ct callee (.inr (.inr (.inl k)) :: as) S Q1) (kk : ∀ v S', Q1 v S' → zk_Ok mid N1 (pc + 3) ls (v.toList ++ st) S' Q) : zk_Ok mid N1 pc ls (as.reverse ++ .inr (.inr (.inl k)) :: st) S Q := by
  intro g p l e R s m args below meth c Z C hr H locs cells slots la hl h1 h2 hR hM hS hcs
  have hst := (zk_ok_c.mp (zk_ok_app h2).2).2
  have has := zk_ok_rev (zk_ok_app h2).1
  obtain ⟨k', rfl⟩ : ∃ k', k = k' + 1 := ⟨k - 1, by omega⟩
  have hki := zk_kind_in hcal
  rw [if_neg (by omega)] at hki
  obtain ⟨hne, hpar, hcn⟩ := zk_mt_ok _ (zk_mr_in hcal)
  have hini : (Cond.initialized (zk_yn callee).cls).before args s = true := C.2.2.2.2.1 _ (zk_in_ini (List.mem_map.mpr ⟨zk_cn (zk_mr callee).1, by
    unfold zk_cn
    rw [List.getD_eq_getElem?_getD, List.getElem?_eq_getElem hcn]
    exact List.getElem_mem hcn, rfl⟩))
  have hcb : va_CN R s args (zk_cn (zk_own mid)) idx (zk_yn callee) host (zk_cc callee) (zk_mL callee) none (zk_ws callee) (zk_rm callee) (zk_mc callee) (zk_ms callee) (zk_np callee) := by
    have hc := C.2.2.2.2.1 _ (zk_code_in hcal)
    have hmem : Cond.code (zk_yn callee) (zk_cc callee) (zk_mL callee) (zk_rt callee) ∈ zk_ws callee := List.mem_cons_self
    rw [hrt] at hc hmem
    refine ⟨⟨rfl, rfl, Nat.le_trans hfr C.2.2.2.2.2.2.2.2.1, Nat.le_trans hlo C.2.2.2.2.2.2.2.2.2.1, zk_words_at C hcal, hmem⟩, hc, hini, hne, fun sig hs => ?_, va_Nw.use (w := .methodLinkNest (zk_cn (zk_own mid)) idx (zk_yn callee) host) rfl (C.2.2.2.2.2.2.2.1.2 (zk_own mid, idx, callee, host) hrow)⟩
    have h2 := hpar
    rw [show (zk_mr callee).2.2.1 = (zk_yn callee).desc from rfl, hs] at h2
    exact (Option.some.inj h2).symm
  have hw := va_runIN (g := F0 m pc la (((as.reverse ++ .inr (.inr (.inl (k' + 1))) :: st)).map (zk_enc g))) (rest := st.map (zk_enc g)) (As := as.map (zk_enc g)) (b := zk_a0 g + (k' + 1)) (below := below) (H := H) (locs := locs) (cells := cells) (slots := slots) (e := e) (meth := meth) ⟨C.1, C.2.1, C.2.2.1, C.2.2.2.1, C.2.2.2.2.1⟩ (hct l g) ⟨hcb, hnm, C.2.2.2.2.1 _ hki⟩ ⟨zk_Pc_blind, zk_pre (as := .inr (.inr (.inl (k' + 1))) :: as) C (zk_ok_c.mpr ⟨trivial, has⟩) hR hM hS⟩ rfl (by rw [List.length_map]; exact hn) (hl.1) (by show List.map _ _ = _; rw [List.map_append, List.map_reverse]; rfl) (lv_room (by rw [zk_catS_eq]; exact hcat)) hd ⟨by have := hcs.1; have := C.2.2.2.2.2.2.2.2.2.2.1; omega, by have := hcs.2; have := C.2.2.2.2.2.2.2.2.2.2.2.1; omega⟩
  exact zk_after kk C hr hl h1 hst hS hcs hw
/-- Object's constructor -/
theorem zk_r_obj (hd : decode (zk_cc mid) pc = .ok (.invokespecial idx, 3)) (hrow : (zk_own mid, idx) ∈ zk_OK) (hk1 : 1 ≤ k) (hcat : zk_catS st ≤ 8) (hfr : 1 ≤ zk_fr mid) (hlo : 20 ≤ zk_lo mid) (kk : zk_Ok mid N1 (pc + 3) ls st S Q) : zk_Ok mid N1 pc ls (.inr (.inr (.inl k)) :: st) S Q :=
  zk_go kk (fun _ h _ => (zk_ok_c.mp h).2) (fun g p l e R s m args below meth c H locs cells slots Z la C hl h1 h2 _ _ _ w => by
    obtain ⟨k', rfl⟩ : ∃ k', k = k' + 1 := ⟨k - 1, by omega⟩
    exact W.objInit C.1 C.2.1 C.2.2.2.1 (C.2.2.2.2.1 _ (zk_in_OK (List.mem_map.mpr ⟨_, hrow, rfl⟩))) (C.2.2.2.2.1 _ (zk_in_etc (List.mem_of_getElem? (i := 6) rfl))) (C.2.2.2.2.1 _ (zk_in_etc (List.mem_of_getElem? (i := 7) rfl))) rfl (by rw [C.2.2.1]; exact hl.1) rfl hd (Nat.le_trans hfr C.2.2.2.2.2.2.2.2.1) (by
      rw [zk_catS_eq]
      have := C.2.2.2.2.2.2.2.2.2.1
      show 2 * 0 + _ + 12 ≤ _
      omega) w)
end zk_rules6
end
section
/-! System.arraycopy over int rows, all cells made -/
def zk_cpy (μ : zk_M) (src : Nat) (sp : Int) (dst : Nat) (dp n : Int) : zk_M := fun c i => if c = dst then (if dp ≤ i ∧ i < dp + n then μ src (sp + (i - dp)) else μ c i) else μ c i
def zk_full (g : zk_G) (S : zk_S) : va_W := (List.range 80).map fun k => (zk_a0 g + (k + 1), zk_encC g S (k + 1))
theorem zk_full_at {g : zk_G} {S : zk_S} {k : Nat} (h1 : 1 ≤ k) (h2 : k ≤ 80) : (zk_full g S)[k - 1]? = some (zk_a0 g + k, zk_encC g S k) := by
  unfold zk_full
  rw [List.getElem?_map, List.getElem?_range (by omega)]
  show some (zk_a0 g + (k - 1 + 1), zk_encC g S (k - 1 + 1)) = _
  rw [show k - 1 + 1 = k by omega]
theorem zk_full_of {g : zk_G} {S : zk_S} {j : Nat} {q : Nat × va_E} (h : (zk_full g S)[j]? = some q) : j < 80 ∧ q = (zk_a0 g + (j + 1), zk_encC g S (j + 1)) := by
  unfold zk_full at h
  rw [List.getElem?_map] at h
  rcases Nat.lt_or_ge j 80 with hj | hj
  · rw [List.getElem?_range hj] at h
    exact ⟨hj, (Option.some.inj h).symm⟩
  · rw [List.getElem?_eq_none (by simpa using hj)] at h
    cases h
theorem zk_full_P {g : zk_G} {S : zk_S} {H : Heap} (hR : zk_RH g S H) (hN : S.1 = 80) : va_P (zk_D g) zk_cl (zk_full g S) H := fun j q hq => by
  obtain ⟨hj, rfl⟩ := zk_full_of hq
  exact hR.2.2.1 (j + 1) (by omega) (by omega)
theorem zk_full_D {g : zk_G} {S : zk_S} : va_D (zk_A g) (zk_full g S) := by
  refine ⟨fun i j p q hp hq e => ?_, fun k q hq => ?_⟩
  · obtain ⟨hi, rfl⟩ := zk_full_of hp
    obtain ⟨hj, rfl⟩ := zk_full_of hq
    simp at e
    exact e
  · obtain ⟨hi, rfl⟩ := zk_full_of hq
    show zk_a0 g < zk_a0 g + (k + 1)
    omega
theorem zk_nfw : nativeFrameWords "java/lang/System" "arraycopy" 5 ≤ 41 := by decide +kernel
theorem zk_r_copy {mid N1 pc idx src dst : Nat} {sp dp n : Int} {ls st : List zk_V} {S : zk_S} {Q : Option zk_V → zk_S → Prop} (hd : decode (zk_cc mid) pc = .ok (.invokestatic idx, 3)) (hrow : (zk_own mid, idx) ∈ zk_AK) (hN : S.1 = 80) (hs1 : zk_sh src = 100) (hd1 : zk_sh dst = 100) (hsr : 1 ≤ src ∧ src ≤ 80) (hds : 1 ≤ dst ∧ dst ≤ 80)
    (h1 : 0 ≤ sp) (h2 : 0 ≤ dp) (h3 : 0 ≤ n) (h4 : sp + n ≤ zk_szI src) (h5 : dp + n ≤ zk_szI dst) (hcat : zk_catS st ≤ 8) (hfr : 1 ≤ zk_fr mid) (hlo : 60 ≤ zk_lo mid) (kk : zk_Ok mid N1 (pc + 3) ls st (S.1, S.2.1, zk_cpy S.2.2 src sp dst dp n) Q) :
    zk_Ok mid N1 pc ls (.inl n :: .inl dp :: .inr (.inr (.inl dst)) :: .inl sp :: .inr (.inr (.inl src)) :: st) S Q := by
  intro g p l e R s m args below meth c Z C hr H locs cells slots la hl q1 q2 hR hM hS hcs
  have hst := (zk_ok_c.mp (zk_ok_c.mp (zk_ok_c.mp (zk_ok_c.mp (zk_ok_c.mp q2).2).2).2).2).2
  have z1 := zk_sz_le src
  have z2 := zk_sz_le dst
  unfold zk_szI at h4 h5
  have r1 : zk_rI sp := by unfold zk_rI; omega
  have r2 : zk_rI dp := by unfold zk_rI; omega
  have r3 : zk_rI n := by unfold zk_rI; omega
  have ear : ∀ (k : Nat) (S : zk_S), zk_sh k = 100 → zk_encC g S k = .inl (zk_aC g 100, zk_sz k, .inl fun j => zk_I (S.2.2 k (j : Int))) := fun k S h => by
    rw [zk_encC_a h (by omega)]
    simp only [zk_ar, h]
  have neg : ∀ z : Int, 0 ≤ z → zk_rI z → ¬ zk_I z < 0 := fun z h0 hz h => by
    have := (zk_I_lt hz zk_r0).mp h
    omega
  have hP := zk_full_P hR hN
  have hw := va_copyi (ls := la) (rest := st.map (zk_enc g)) (p := p) (l := l) (e := e) (R := R) (below := below) (meth := meth) (cells := cells) (slots := slots) (Q := Z) C.1 C.2.1 (by rw [C.2.2.1]; exact hl.1.symm) C.2.2.2.1 (C.2.2.2.2.1 _ (zk_in_AK (List.mem_map.mpr ⟨_, hrow, rfl⟩))) (C.2.2.2.2.1 _ (zk_in_etc (List.mem_of_getElem? (i := 4) rfl))) (C.2.2.2.2.1 _ (zk_in_etc (List.mem_of_getElem? (i := 5) rfl))) (C.2.2.2.2.1 _ (zk_in_ini (List.mem_of_getElem? (i := 19) rfl)))
    (C.2.2.2.2.2.1 : va_K _ _ _ _) hP zk_full_D hS (src - 1) (dst - 1) 0 0 (ty := .int) (by rw [zk_full_at hsr.1 hsr.2, ear src S hs1]) (by rw [zk_full_at hds.1 hds.2, ear dst S hd1]) rfl rfl rfl (sp := zk_I sp) (dp := zk_I dp) (n := zk_I n) (neg sp h1 r1) (neg dp h2 r2) (neg n h3 r3)
    (by rw [zk_clamp h1 r1, zk_clamp h3 r3]; omega) (by rw [zk_clamp h2 r2, zk_clamp h3 r3]; omega) (fun _ _ => rfl) (Nat.le_trans hfr C.2.2.2.2.2.2.2.2.1) (by
      rw [zk_catS_eq]
      have := C.2.2.2.2.2.2.2.2.2.1
      have := zk_nfw
      omega) hd (fun H1 locs1 hP1 _ hS1 => kk g p l e R s m args below meth c Z C hr H1 locs1 cells slots la hl q1 hst ?_ ?_ hS1 hcs)
  · obtain ⟨s', rfl⟩ : ∃ k', src = k' + 1 := ⟨src - 1, by omega⟩
    obtain ⟨d', rfl⟩ : ∃ k', dst = k' + 1 := ⟨dst - 1, by omega⟩
    exact hw
  · refine ⟨fun h => absurd h (by show ¬ S.1 < 80; omega), hR.2.1, fun k g1 g2 => ?_, fun i => ?_⟩
    · have g2 : k ≤ 80 := by have : k ≤ S.1 := g2; omega
      by_cases ek : k = dst
      · subst ek
        have hat := hP1 (k - 1) (zk_a0 g + k, .inl (zk_aC g 100, zk_sz k, .inl (va_cpy (fun j => zk_I (S.2.2 src (j : Int))) (fun j => zk_I (S.2.2 k (j : Int))) (zk_I sp).toNatClampNeg (zk_I dp).toNatClampNeg (zk_I n).toNatClampNeg))) (by
          rw [List.getElem?_set_self (by simp [zk_full]; omega)])
        rw [ear k _ hd1]
        have ef : (fun j : Nat => zk_I (zk_cpy S.2.2 src sp k dp n k (j : Int))) = va_cpy (fun j => zk_I (S.2.2 src (j : Int))) (fun j => zk_I (S.2.2 k (j : Int))) (zk_I sp).toNatClampNeg (zk_I dp).toNatClampNeg (zk_I n).toNatClampNeg := by
          funext j
          rw [zk_clamp h1 r1, zk_clamp h2 r2, zk_clamp h3 r3]
          simp only [zk_cpy, va_cpy, if_true]
          by_cases hj : dp ≤ (j : Int) ∧ (j : Int) < dp + n
          · have e3 : sp + ((j : Int) - dp) = ((sp.toNat + (j - dp.toNat) : Nat) : Int) := by omega
            rw [if_pos hj, if_pos (by omega), e3]
          · rw [if_neg hj, if_neg (by omega)]
        show va_at _ _ (_, .inl (_, _, .inl (fun j : Nat => zk_I (zk_cpy S.2.2 src sp k dp n k (j : Int))))) H1
        rw [ef]
        exact hat
      · have hat := hP1 (k - 1) (zk_a0 g + k, zk_encC g S k) (by
          rw [List.getElem?_set_ne (by omega)]
          exact zk_full_at g1 g2)
        rw [show zk_encC g (S.1, S.2.1, zk_cpy S.2.2 src sp dst dp n) k = zk_encC g S k from zk_encC_congr rfl (by funext i; simp [zk_cpy, ek])]
        exact hat
    · show zk_cpy S.2.2 src sp dst dp n 0 i = _
      simp only [zk_cpy]
      rw [if_neg (by omega)]
      exact hR.2.2.2 i
  · intro k i
    show zk_rJ (zk_cpy S.2.2 src sp dst dp n k i) ∧ (zk_lg k i = false → zk_rI (zk_cpy S.2.2 src sp dst dp n k i))
    simp only [zk_cpy]
    split
    · split
      · have := hM src (sp + (i - dp))
        exact ⟨this.1, fun _ => this.2 (zk_lg_a _ hs1 (by omega) (by omega))⟩
      · exact hM k i
    · exact hM k i
end
section
/-! the walk by computation: all cells are made, the references stand *-/
/-- how many cells there were at the entry: the law makes all, the others none -/
def zk_N1 (mid : Nat) : Nat := 80 - zk_mc mid
def zk_K (mid pc : Nat) (ls st : List zk_V) (μ : zk_M) (Q : Option zk_V → zk_M → Prop) : Prop := zk_Ok mid (zk_N1 mid) pc ls st (80, zk_rho, μ) (fun v S' => ∃ μ', S' = (80, zk_rho, μ') ∧ Q v μ')
def zk_C (mid : Nat) (as : List zk_V) (μ : zk_M) (Q : Option zk_V → zk_M → Prop) : Prop := zk_Ct mid as (80, zk_rho, μ) (fun v S' => ∃ μ', S' = (80, zk_rho, μ') ∧ Q v μ')
def zk_RV (Q : zk_M → Prop) : Option zk_V → zk_M → Prop := fun v μ => match v with
  | none => Q μ
  | _ => False
def zk_RI (Q : Int → zk_M → Prop) : Option zk_V → zk_M → Prop := fun v μ => match v with
  | some (.inl r) => Q r μ
  | _ => False
def zk_RL (Q : Int → zk_M → Prop) : Option zk_V → zk_M → Prop := fun v μ => match v with
  | some (.inr (.inl r)) => Q r μ
  | _ => False
def zk_RR (Q : Nat → zk_M → Prop) : Option zk_V → zk_M → Prop := fun v μ => match v with
  | some (.inr (.inr (.inl r))) => Q r μ
  | _ => False
/-- an instruction of a method: its place, itself, what it links to -/
abbrev zk_E : Type := Nat × Instr × (Nat × Nat × Int × Nat × Nat)
def zk_nl (ls : List zk_V) (i : Nat) : Bool := match i with
  | 0 => true
  | j + 1 => match ls[j]? with
    | some (.inr (.inl _)) => false
    | _ => true
def zk_rhoN (k c : Nat) : Nat := (zk_rhoL.getD k []).getD c 0
def zk_fvN (μ : zk_M) (k t c : Nat) (z : Int) : zk_V := match t with
  | 1 => .inr (.inl (μ k z))
  | 3 => .inr (.inr (.inl (zk_rhoN k c)))
  | _ => .inl (μ k z)
def zk_j (b c : Nat) (K L : Nat → List zk_V → List zk_V → zk_M → Prop) : List zk_V → List zk_V → zk_M → Prop := match b with
  | 0 => L c
  | s + 1 => K s
def zk_if (cnd : Jvm.ClassFile.Cond) (x y : Int) (A B : Prop) : Prop := match cnd with
  | .eq => (x = y → A) ∧ (¬ x = y → B)
  | .ne => (¬ x = y → A) ∧ (x = y → B)
  | .lt => (x < y → A) ∧ (¬ (x < y) → B)
  | .ge => (y ≤ x → A) ∧ (¬ (y ≤ x) → B)
  | .gt => (y < x → A) ∧ (¬ (y < x) → B)
  | .le => (x ≤ y → A) ∧ (¬ (x ≤ y) → B)
def zk_tsw (dflt x : Int) (J : Int → Prop) : List Int → Int → Prop
  | [], _ => J dflt
  | off :: offs, v => if off = dflt then zk_tsw dflt x J offs (v + 1) else (x = v → J off) ∧ (¬ x = v → zk_tsw dflt x J offs (v + 1))
def zk_tgt (pc : Nat) (cs : List zk_E) (off : Int) : Nat := cs.findIdx (fun e => (e.1 : Int) == (pc : Int) + off)
def zk_inv (callee d : Nat) (pc : Nat) (as rest ls : List zk_V) (μ : zk_M) (K L : Nat → List zk_V → List zk_V → zk_M → Prop) : Prop := match d with
  | 0 => zk_C callee as μ (zk_RV fun μ' => K 0 ls rest μ')
  | 1 => zk_C callee as μ (zk_RI fun r μ' => K 0 ls (.inl r :: rest) μ')
  | 2 => zk_C callee as μ (zk_RL fun r μ' => K 0 ls (.inr (.inl r) :: rest) μ')
  | _ => zk_C callee as μ (zk_RR fun r μ' => L (pc + 3) ls (.inr (.inr (.inl r)) :: rest) μ')
def zk_recv (a : Nat) (as : List zk_V) : Bool := match as with
  | .inr (.inr (.inl k)) :: _ => Nat.beq (zk_sh k) a
  | .inr (.inr (.inr n)) :: _ => Nat.beq n 1 && Nat.beq a 16
  | _ => false
def zk_rI' (x : Int) : Prop := -2147483648 ≤ x ∧ x ≤ 2147483647
def zk_rJ' (x : Int) : Prop := -9223372036854775808 ≤ x ∧ x ≤ 9223372036854775807
def zk_stp (e : zk_E) (cs : List zk_E) (K L : Nat → List zk_V → List zk_V → zk_M → Prop) (ls st : List zk_V) (μ : zk_M) (Q : Option zk_V → zk_M → Prop) : Prop := match e with
  | (pc, i, a, b, z, c, d) => match i with
    | .iconst n => K 0 ls (.inl n :: st) μ
    | .bipush n => K 0 ls (.inl n :: st) μ
    | .sipush n => K 0 ls (.inl n :: st) μ
    | .lconst _ => K 0 ls (.inr (.inl z) :: st) μ
    | .aconst_null => K 0 ls (.inr (.inr (.inl 0)) :: st) μ
    | .ldc _ => match d with
      | 0 => K 0 ls (.inl z :: st) μ
      | _ => K 0 ls (.inr (.inr (.inr 1)) :: st) μ
    | .ldc_w _ => K 0 ls (.inl z :: st) μ
    | .ldc2_w _ => K 0 ls (.inr (.inl z) :: st) μ
    | .iload i => match ls[i]? with
      | some (.inl x) => K 0 ls (.inl x :: st) μ
      | _ => False
    | .iload_n i => match ls[i.val]? with
      | some (.inl x) => K 0 ls (.inl x :: st) μ
      | _ => False
    | .lload i => match ls[i]? with
      | some (.inr (.inl x)) => K 0 ls (.inr (.inl x) :: st) μ
      | _ => False
    | .lload_n i => match ls[i.val]? with
      | some (.inr (.inl x)) => K 0 ls (.inr (.inl x) :: st) μ
      | _ => False
    | .aload i => match ls[i]? with
      | some v => cond (zk_isR v) (K 0 ls (v :: st) μ) False
      | _ => False
    | .aload_n i => match ls[i.val]? with
      | some v => cond (zk_isR v) (K 0 ls (v :: st) μ) False
      | _ => False
    | .istore i => match st with
      | .inl x :: st => cond (zk_nl ls i) (K 0 (ls.set i (.inl x)) st μ) False
      | _ => False
    | .istore_n i => match st with
      | .inl x :: st => cond (zk_nl ls i.val) (K 0 (ls.set i.val (.inl x)) st μ) False
      | _ => False
    | .astore i => match st with
      | v :: st => cond (zk_isR v && zk_nl ls i) (K 0 (ls.set i v) st μ) False
      | _ => False
    | .astore_n i => match st with
      | v :: st => cond (zk_isR v && zk_nl ls i.val) (K 0 (ls.set i.val v) st μ) False
      | _ => False
    | .iinc i n => match ls[i]? with
      | some (.inl x) => cond (zk_nl ls i) ((-2147483648 ≤ x + n ∧ x + n ≤ 2147483647) ∧ K 0 (ls.set i (.inl (x + n))) st μ) False
      | _ => False
    | .iadd => match st with
      | .inl y :: .inl x :: st => (-2147483648 ≤ x + y ∧ x + y ≤ 2147483647) ∧ K 0 ls (.inl (x + y) :: st) μ
      | _ => False
    | .isub => match st with
      | .inl y :: .inl x :: st => (-2147483648 ≤ x - y ∧ x - y ≤ 2147483647) ∧ K 0 ls (.inl (x - y) :: st) μ
      | _ => False
    | .imul => match st with
      | .inl y :: .inl x :: st => (-2147483648 ≤ x * y ∧ x * y ≤ 2147483647) ∧ K 0 ls (.inl (x * y) :: st) μ
      | _ => False
    | .idiv => match st with
      | .inl y :: .inl x :: st => (y ≠ 0 ∧ -2147483648 ≤ x.tdiv y ∧ x.tdiv y ≤ 2147483647) ∧ K 0 ls (.inl (x.tdiv y) :: st) μ
      | _ => False
    | .irem => match st with
      | .inl y :: .inl x :: st => (y ≠ 0 ∧ -2147483648 ≤ x.tdiv y ∧ x.tdiv y ≤ 2147483647) ∧ K 0 ls (.inl (x.tmod y) :: st) μ
      | _ => False
    | .ineg => match st with
      | .inl x :: st => (-2147483648 ≤ -x ∧ -x ≤ 2147483647) ∧ K 0 ls (.inl (-x) :: st) μ
      | _ => False
    | .ladd => match st with
      | .inr (.inl y) :: .inr (.inl x) :: st => zk_rJ (x + y) ∧ K 0 ls (.inr (.inl (x + y)) :: st) μ
      | _ => False
    | .lsub => match st with
      | .inr (.inl y) :: .inr (.inl x) :: st => zk_rJ (x - y) ∧ K 0 ls (.inr (.inl (x - y)) :: st) μ
      | _ => False
    | .lmul => match st with
      | .inr (.inl y) :: .inr (.inl x) :: st => zk_rJ (x * y) ∧ K 0 ls (.inr (.inl (x * y)) :: st) μ
      | _ => False
    | .ldiv => match st with
      | .inr (.inl y) :: .inr (.inl x) :: st => (y ≠ 0 ∧ zk_rJ (x.tdiv y)) ∧ K 0 ls (.inr (.inl (x.tdiv y)) :: st) μ
      | _ => False
    | .lneg => match st with
      | .inr (.inl x) :: st => zk_rJ (-x) ∧ K 0 ls (.inr (.inl (-x)) :: st) μ
      | _ => False
    | .iand => match st with
      | .inl y :: .inl x :: st => K 0 ls (.inl (zk_and x y) :: st) μ
      | _ => False
    | .ior => match st with
      | .inl y :: .inl x :: st => K 0 ls (.inl (zk_or x y) :: st) μ
      | _ => False
    | .ixor => match st with
      | .inl y :: .inl x :: st => K 0 ls (.inl (zk_xor x y) :: st) μ
      | _ => False
    | .ishl => match st with
      | .inl y :: .inl x :: st => K 0 ls (.inl (zk_shl x y) :: st) μ
      | _ => False
    | .ishr => match st with
      | .inl y :: .inl x :: st => K 0 ls (.inl (zk_shr x y) :: st) μ
      | _ => False
    | .iushr => match st with
      | .inl y :: .inl x :: st => K 0 ls (.inl (zk_ushr x y) :: st) μ
      | _ => False
    | .lor => match st with
      | .inr (.inl y) :: .inr (.inl x) :: st => K 0 ls (.inr (.inl (zk_lor x y)) :: st) μ
      | _ => False
    | .lshl => match st with
      | .inl y :: .inr (.inl x) :: st => K 0 ls (.inr (.inl (zk_lshl x y)) :: st) μ
      | _ => False
    | .lcmp => match st with
      | .inr (.inl y) :: .inr (.inl x) :: st => K 0 ls (.inl (zk_cmp x y) :: st) μ
      | _ => False
    | .i2l => match st with
      | .inl x :: st => K 0 ls (.inr (.inl x) :: st) μ
      | _ => False
    | .l2i => match st with
      | .inr (.inl x) :: st => (-2147483648 ≤ x ∧ x ≤ 2147483647) ∧ K 0 ls (.inl x :: st) μ
      | _ => False
    | .i2c => match st with
      | .inl x :: st => (0 ≤ x ∧ x ≤ 65535) ∧ K 0 ls (.inl x :: st) μ
      | _ => False
    | .dup => match st with
      | .inl x :: st => K 0 ls (.inl x :: .inl x :: st) μ
      | .inr (.inr v) :: st => K 0 ls (.inr (.inr v) :: .inr (.inr v) :: st) μ
      | _ => False
    | .pop => match st with
      | .inl _ :: st => K 0 ls st μ
      | .inr (.inr _) :: st => K 0 ls st μ
      | _ => False
    | .dup2 => match st with
      | .inl x :: .inr (.inr v) :: st => K 0 ls (.inl x :: .inr (.inr v) :: .inl x :: .inr (.inr v) :: st) μ
      | _ => False
    | .goto _ => zk_j b c K L ls st μ
    | .ifCond cnd _ => match st with
      | .inl x :: st => zk_if cnd x 0 (zk_j b c K L ls st μ) (K 0 ls st μ)
      | _ => False
    | .if_icmp cnd _ => match st with
      | .inl y :: .inl x :: st => zk_if cnd x y (zk_j b c K L ls st μ) (K 0 ls st μ)
      | _ => False
    | .ifnull _ => match st with
      | .inr (.inr (.inl r)) :: st => (r = 0 → zk_j b c K L ls st μ) ∧ (¬ r = 0 → K 0 ls st μ)
      | _ => False
    | .ifnonnull _ => match st with
      | .inr (.inr (.inl r)) :: st => (¬ r = 0 → zk_j b c K L ls st μ) ∧ (r = 0 → K 0 ls st μ)
      | _ => False
    | .tableswitch dflt lo _ offs => match st with
      | .inl x :: st => zk_tsw dflt x (fun off => K (zk_tgt pc cs off) ls st μ) offs.toList lo
      | _ => False
    | .getfield _ => match st with
      | .inr (.inr (.inl k)) :: st => cond (Nat.beq (zk_sh k) b) (K 0 ls (zk_fvN μ k d c z :: st) μ) False
      | _ => False
    | .putfield _ => match d, st with
      | 0, .inl x :: .inr (.inr (.inl k)) :: st => cond (Nat.beq (zk_sh k) b) (K 0 ls st (zk_set μ k z x)) False
      | 1, .inr (.inl x) :: .inr (.inr (.inl k)) :: st => cond (Nat.beq (zk_sh k) b) (K 0 ls st (zk_set μ k z x)) False
      | 2, .inl x :: .inr (.inr (.inl k)) :: st => cond (Nat.beq (zk_sh k) b) ((x = 0 ∨ x = 1) ∧ K 0 ls st (zk_set μ k z x)) False
      | _, _ => False
    | .iaload => match st with
      | .inl i :: .inr (.inr (.inl k)) :: st => cond (Nat.beq (zk_sh k) 100) ((0 ≤ i ∧ i < zk_szI k) ∧ K 0 ls (.inl (μ k i) :: st) μ) False
      | .inl i :: .inr (.inr (.inr n)) :: st => cond (Nat.beq n 2) ((0 ≤ i ∧ i < μ 0 (-1)) ∧ K 0 ls (.inl (μ 0 i) :: st) μ) False
      | _ => False
    | .baload => match st with
      | .inl i :: .inr (.inr (.inl k)) :: st => cond (Nat.beq (zk_sh k) 102) ((0 ≤ i ∧ i < zk_szI k) ∧ K 0 ls (.inl (μ k i) :: st) μ) False
      | _ => False
    | .caload => match st with
      | .inl i :: .inr (.inr (.inl k)) :: st => cond (Nat.beq (zk_sh k) 103) ((0 ≤ i ∧ i < zk_szI k) ∧ K 0 ls (.inl (μ k i) :: st) μ) False
      | _ => False
    | .laload => match st with
      | .inl i :: .inr (.inr (.inl k)) :: st => cond (Nat.beq (zk_sh k) 101) ((0 ≤ i ∧ i < zk_szI k) ∧ K 0 ls (.inr (.inl (μ k i)) :: st) μ) False
      | _ => False
    | .aaload => match st with
      | .inl i :: .inr (.inr (.inl k)) :: st => cond (Nat.beq (zk_sh k) 104) ((0 ≤ i ∧ i < zk_szI k) ∧ K 0 ls (.inr (.inr (.inl (zk_rho k i))) :: st) μ) False
      | _ => False
    | .arraylength => match st with
      | .inr (.inr (.inl k)) :: st => cond (Nat.beq (zk_sh k) 100 || Nat.beq (zk_sh k) 103) (K 0 ls (.inl (zk_szI k) :: st) μ) False
      | .inr (.inr (.inr n)) :: st => cond (Nat.beq n 2) (K 0 ls (.inl (μ 0 (-1)) :: st) μ) False
      | _ => False
    | .iastore => match st with
      | .inl x :: .inl i :: .inr (.inr (.inl k)) :: st => cond (Nat.beq (zk_sh k) 100) ((0 ≤ i ∧ i < zk_szI k) ∧ K 0 ls st (zk_set μ k i x)) False
      | _ => False
    | .lastore => match st with
      | .inr (.inl x) :: .inl i :: .inr (.inr (.inl k)) :: st => cond (Nat.beq (zk_sh k) 101) ((0 ≤ i ∧ i < zk_szI k) ∧ K 0 ls st (zk_set μ k i x)) False
      | _ => False
    | .bastore => match st with
      | .inl x :: .inl i :: .inr (.inr (.inl k)) :: st => cond (Nat.beq (zk_sh k) 102) ((0 ≤ i ∧ i < zk_szI k) ∧ (x = 0 ∨ x = 1) ∧ K 0 ls st (zk_set μ k i x)) False
      | _ => False
    | .castore => match st with
      | .inl x :: .inl i :: .inr (.inr (.inl k)) :: st => cond (Nat.beq (zk_sh k) 103) ((0 ≤ i ∧ i < zk_szI k) ∧ (0 ≤ x ∧ x ≤ 65535) ∧ K 0 ls st (zk_set μ k i x)) False
      | _ => False
    | .invokevirtual _ => cond (Nat.beq (st.take c).length c && (zk_recv a (st.take c).reverse && Nat.ble (zk_catS (st.drop c)) 8)) (zk_inv b d pc (st.take c).reverse (st.drop c) ls μ K L) False
    | .invokestatic _ => match a with
      | 0 => cond (Nat.beq (st.take c).length c && Nat.ble (zk_catS (st.drop c)) 8) (zk_inv b d pc (st.take c).reverse (st.drop c) ls μ K L) False
      | _ => match st with
        | .inl n :: .inl dp :: .inr (.inr (.inl dst)) :: .inl sp :: .inr (.inr (.inl src)) :: st => cond (Nat.beq (zk_sh src) 100 && (Nat.beq (zk_sh dst) 100 && Nat.ble (zk_catS st) 8)) ((0 ≤ sp ∧ 0 ≤ dp ∧ 0 ≤ n ∧ sp + n ≤ zk_szI src ∧ dp + n ≤ zk_szI dst) ∧ K 0 ls st (zk_cpy μ src sp dst dp n)) False
        | _ => False
    | .ireturn => match d, st with
      | 0, [.inl x] => Q (some (.inl x)) μ
      | 1, [.inl x] => cond (decide (x = 0 ∨ x = 1)) (Q (some (.inl x)) μ) False
      | 2, [.inl x] => (x = 0 ∨ x = 1) ∧ Q (some (.inl x)) μ
      | _, _ => False
    | .lreturn => match st with
      | [.inr (.inl x)] => Q (some (.inr (.inl x))) μ
      | _ => False
    | .areturn => match st with
      | [.inr (.inr (.inl r))] => Q (some (.inr (.inr (.inl r)))) μ
      | _ => False
    | .return_ => match st with
      | [] => Q none μ
      | _ => False
    | _ => False
def zk_wp (mid : Nat) (cuts : List Nat) (Q : Option zk_V → zk_M → Prop) : Nat → List zk_E → List zk_V → List zk_V → zk_M → Prop
  | 0, _, _, _, _ => False
  | _ + 1, [], _, _, _ => False
  | n + 1, e :: cs, ls, st, μ => zk_stp e cs (fun k ls st μ => match cs.drop k with
      | [] => False
      | e' :: cs' => cond (cuts.elem e'.1) (zk_K mid e'.1 ls st μ Q) (zk_wp mid cuts Q n (e' :: cs') ls st μ)) (fun pc ls st μ => zk_K mid pc ls st μ Q) ls st μ Q
/-! what is checked of a method's list, once -/
def zk_pcAt (cs : List zk_E) (k : Nat) (t : Int) : Bool := match cs.drop k with
  | [] => false
  | e :: _ => (e.1 : Int) == t
def zk_chkJ (pc b c : Nat) (cs : List zk_E) (off : Int) : Bool := match b with
  | 0 => (c : Int) == (pc : Int) + off
  | s + 1 => zk_pcAt cs s ((pc : Int) + off)
def zk_rk (r : Option FieldType) : Nat := match r with
  | none => 0
  | some .long => 2
  | some (.object _) => 3
  | _ => 1
def zk_chkC (mid b c d : Nat) (idx : Nat) (recv : Nat) : Bool := (zk_LK.elem (zk_own mid, idx, b) && (Nat.blt b zk_mtab.length && (Nat.beq c (zk_np b + recv) && (Nat.beq d (zk_rk (zk_rt b)) && (Nat.ble (zk_fr b + 1) (zk_fr mid) && Nat.ble (8 + (zk_mL b + 11) + zk_lo b) (zk_lo mid))))))
  && (Nat.beq (zk_mc b) 0 && Nat.beq (zk_ms b) 0)
def zk_chkI (mid : Nat) (e : zk_E) (cs : List zk_E) : Bool := match e with
  | (pc, i, a, b, z, c, d) => match i with
    | .iconst n => decide (-2147483648 ≤ n ∧ n ≤ 2147483647)
    | .bipush n => decide (-2147483648 ≤ n ∧ n ≤ 2147483647) && decide ((Int8.ofInt n).toInt32 = zk_I n)
    | .sipush n => decide (-2147483648 ≤ n ∧ n ≤ 2147483647) && decide ((Int16.ofInt n).toInt32 = zk_I n)
    | .lconst n => decide (z = ((n.val : Nat) : Int))
    | .ldc idx => match d with
      | 0 => zk_CT.elem (zk_own mid, idx, z) && decide (-2147483648 ≤ z ∧ z ≤ 2147483647)
      | _ => Nat.beq (zk_own mid) 10 && Nat.beq idx 60
    | .ldc_w idx => zk_CT.elem (zk_own mid, idx, z) && decide (-2147483648 ≤ z ∧ z ≤ 2147483647)
    | .ldc2_w idx => zk_LT.elem (zk_own mid, idx, z) && decide (-9223372036854775808 ≤ z ∧ z ≤ 9223372036854775807)
    | .istore i => Nat.blt i (zk_mL mid)
    | .istore_n i => Nat.blt i.val (zk_mL mid)
    | .astore i => Nat.blt i (zk_mL mid)
    | .astore_n i => Nat.blt i.val (zk_mL mid)
    | .iinc i _ => Nat.blt i (zk_mL mid)
    | .goto off => zk_chkJ pc b c cs off
    | .ifCond _ off => zk_chkJ pc b c cs off
    | .if_icmp _ off => zk_chkJ pc b c cs off
    | .ifnull off => zk_chkJ pc b c cs off
    | .ifnonnull off => zk_chkJ pc b c cs off
    | .tableswitch dflt lo hi offs => zk_pcAt cs (zk_tgt pc cs dflt) ((pc : Int) + dflt) && offs.toList.all (fun off => zk_pcAt cs (zk_tgt pc cs off) ((pc : Int) + off)) && decide (hi - lo + 1 = (offs.toList.length : Int))
    | .getfield idx => zk_FL.elem (zk_own mid, idx, b, c) && (decide (z = (c : Int)) && Nat.beq (zk_ft b c) d)
    | .putfield idx => zk_FL.elem (zk_own mid, idx, b, c) && (decide (z = (c : Int)) && (Nat.beq (zk_ft b c) d && !(zk_TT b c).2.2.2))
    | .invokevirtual idx => zk_chkC mid b c d idx 1 && (Nat.beq (zk_kd b) 0 && (Nat.beq a (zk_own b) && (Nat.blt a 13 || Nat.beq a 16)))
    | .invokestatic idx => match a with
      | 0 => zk_chkC mid b c d idx 0 && Nat.beq (zk_kd b) 1
      | _ => zk_AK.elem (zk_own mid, idx) && (Nat.ble 1 (zk_fr mid) && Nat.ble 60 (zk_lo mid))
    | .ireturn => match d with
      | 0 => decide (zk_rt mid = some .int)
      | _ => decide (zk_rt mid = some .boolean)
    | .lreturn => decide (zk_rt mid = some .long)
    | .areturn => Nat.beq (zk_rk (zk_rt mid)) 3
    | .return_ => decide (zk_rt mid = none)
    | _ => true
def zk_len (i : Instr) (len : Nat) : Nat := match i with
  | .tableswitch .. => len
  | .bipush _ => 2
  | .ldc _ => 2
  | .iload _ => 2
  | .lload _ => 2
  | .aload _ => 2
  | .istore _ => 2
  | .astore _ => 2
  | .sipush _ => 3
  | .ldc_w _ => 3
  | .ldc2_w _ => 3
  | .iinc _ _ => 3
  | .goto _ => 3
  | .ifCond _ _ => 3
  | .if_icmp _ _ => 3
  | .ifnull _ => 3
  | .ifnonnull _ => 3
  | .getfield _ => 3
  | .putfield _ => 3
  | .invokevirtual _ => 3
  | .invokestatic _ => 3
  | _ => 1
def zk_chkE (mid : Nat) (e : zk_E) (cs : List zk_E) : Bool := (match decode (zk_cc mid) e.1 with
    | .ok (i, len) => (decide (i = e.2.1) && Nat.beq len (zk_len i len)) && (zk_pcAt cs 0 ((e.1 + len : Nat) : Int) || cs.isEmpty)
    | .error _ => false) && zk_chkI mid e cs
def zk_chk (mid : Nat) : List zk_E → Bool
  | [] => true
  | e :: cs => zk_chkE mid e cs && zk_chk mid cs
end
section
/-! the walk by computation is right *-/
theorem zk_pcAt_of {cs : List zk_E} {k : Nat} {t : Int} {e : zk_E} {cs' : List zk_E} (h : zk_pcAt cs k t = true) (hd : cs.drop k = e :: cs') : (e.1 : Int) = t := by
  unfold zk_pcAt at h
  rw [hd] at h
  exact eq_of_beq h
theorem zk_nl_of {ls : List zk_V} {i : Nat} (h : zk_nl ls i = true) : ∀ x, i ≠ 0 → ls[i - 1]? ≠ some (.inr (.inl x)) := by
  intro x hi hx
  match i, h, hi with
  | j + 1, h, _ =>
    simp only [zk_nl] at h
    rw [Nat.add_sub_cancel] at hx
    rw [hx] at h
    cases h
theorem zk_cond {b : Bool} {P : Prop} (h : cond b P False) : b = true ∧ P := by
  cases b with
  | true => exact ⟨rfl, h⟩
  | false => exact h.elim
theorem zk_rho_N (k c : Nat) : zk_rho k (c : Int) = zk_rhoN k c := by
  unfold zk_rho zk_rhoN
  rw [if_pos (by omega)]
  rfl
theorem zk_fvN_eq (μ : zk_M) (k t c : Nat) : zk_fv (80, zk_rho, μ) k t (c : Int) = zk_fvN μ k t c (c : Int) := by
  match t with
  | 0 => rfl
  | 1 => rfl
  | 2 => rfl
  | 3 => show (.inr (.inr (.inl (zk_rho k (c : Int)))) : zk_V) = _; rw [zk_rho_N]; rfl
  | (_ + 4) => rfl
theorem zk_sh_lt {k t : Nat} (h : zk_sh k = t) (ht : t ≠ 99) : 1 ≤ k ∧ k ≤ 80 := by
  have h0 : k ≠ 0 := by
    rintro rfl
    exact ht h.symm
  refine ⟨by omega, ?_⟩
  rcases Nat.lt_or_ge k 81 with hk | hk
  · omega
  · exfalso
    apply ht
    rw [← h]
    unfold zk_sh
    rw [List.getD_eq_getElem?_getD, List.getElem?_eq_none (by show 81 ≤ k; exact hk)]
    rfl
theorem zk_take {st : List zk_V} {c : Nat} : st = ((st.take c).reverse).reverse ++ st.drop c := by rw [List.reverse_reverse, List.take_append_drop]
theorem zk_elem {α : Type} [BEq α] [LawfulBEq α] {a : α} {l : List α} (h : l.elem a = true) : a ∈ l := List.elem_iff.mp h
theorem zk_rI_of' {x : Int} (h : -2147483648 ≤ x ∧ x ≤ 2147483647) : zk_rI x := h
theorem zk_kK {mid pc : Nat} {ls st : List zk_V} {μ : zk_M} {Q : Option zk_V → zk_M → Prop} (h : zk_K mid pc ls st μ Q) : zk_Ok mid (zk_N1 mid) pc ls st (80, zk_rho, μ) (fun v S' => ∃ μ', S' = (80, zk_rho, μ') ∧ Q v μ') := h
section zk_sound
variable {mid pc a b c d : Nat} {z : Int} {cs : List zk_E} {K L : Nat → List zk_V → List zk_V → zk_M → Prop} {ls st : List zk_V} {μ : zk_M} {Q : Option zk_V → zk_M → Prop}
/-- a call: behind it -/
theorem zk_inv_sound {callee : Nat} {as rest : List zk_V} (hn : ∀ ls st μ, K 0 ls st μ → zk_K mid (pc + 3) ls st μ Q) (hL : ∀ pc ls st μ, L pc ls st μ → zk_K mid pc ls st μ Q) (h : zk_inv callee d pc as rest ls μ K L) :
    ∃ Q1 : Option zk_V → zk_S → Prop, zk_Ct callee as (80, zk_rho, μ) Q1 ∧ ∀ v S', Q1 v S' → zk_Ok mid (zk_N1 mid) (pc + 3) ls (v.toList ++ rest) S' (fun v S' => ∃ μ', S' = (80, zk_rho, μ') ∧ Q v μ') := by
  unfold zk_inv at h
  split at h
  · refine ⟨_, h, fun v S' hv => ?_⟩
    obtain ⟨μ', rfl, hq⟩ := hv
    match v, hq with
    | none, hq => exact hn _ _ _ hq
  · refine ⟨_, h, fun v S' hv => ?_⟩
    obtain ⟨μ', rfl, hq⟩ := hv
    match v, hq with
    | some (.inl r), hq => exact hn _ _ _ hq
  · refine ⟨_, h, fun v S' hv => ?_⟩
    obtain ⟨μ', rfl, hq⟩ := hv
    match v, hq with
    | some (.inr (.inl r)), hq => exact hn _ _ _ hq
  · refine ⟨_, h, fun v S' hv => ?_⟩
    obtain ⟨μ', rfl, hq⟩ := hv
    match v, hq with
    | some (.inr (.inr (.inl r))), hq => exact hL _ _ _ _ hq
theorem zk_if_sound {cnd : Jvm.ClassFile.Cond} {x y : Int} {A B : Prop} {P1 P2 : Prop} (h : zk_if cnd x y A B) (hA : A → P1) (hB : B → P2) : zk_if cnd x y P1 P2 := by
  cases cnd <;> exact ⟨fun q => hA (h.1 q), fun q => hB (h.2 q)⟩
theorem zk_chkC_of {mid b c d idx recv : Nat} (h : zk_chkC mid b c d idx recv = true) : (zk_own mid, idx, b) ∈ zk_LK ∧ b < zk_mtab.length ∧ c = zk_np b + recv ∧ zk_fr b + 1 ≤ zk_fr mid ∧ 8 + (zk_mL b + 11) + zk_lo b ≤ zk_lo mid ∧ zk_mc b = 0 ∧ zk_ms b = 0 := by
  unfold zk_chkC at h
  simp only [Bool.and_eq_true] at h
  obtain ⟨⟨h1, h2, h3, -, h5, h6⟩, h7, h8⟩ := h
  exact ⟨zk_elem h1, Nat.blt_eq.mp h2, Nat.eq_of_beq_eq_true h3, Nat.le_of_ble_eq_true h5, Nat.le_of_ble_eq_true h6, Nat.eq_of_beq_eq_true h7, Nat.eq_of_beq_eq_true h8⟩
theorem zk_tsw_pick {dflt x : Int} {J : Int → Prop} : ∀ (l : List Int) (v : Int), zk_tsw dflt x J l v → (∀ (j : Nat) (off : Int), l[j]? = some off → x = v + (j : Int) → J off) ∧ ((∀ j : Nat, j < l.length → x ≠ v + (j : Int)) → J dflt)
  | [], v, h => ⟨fun j off hj => by simp at hj, fun _ => h⟩
  | o :: l, v, h => by
    unfold zk_tsw at h
    by_cases ho : o = dflt
    · rw [if_pos ho] at h
      have ih := zk_tsw_pick l (v + 1) h
      refine ⟨fun j off hj hx => ?_, fun hx => ih.2 (fun j hj => by have := hx (j + 1) (by simp; omega); omega)⟩
      match j, hj, hx with
      | 0, hj, hx =>
        simp at hj
        rw [← hj, ho]
        exact ih.2 (fun j _ => by omega)
      | j + 1, hj, hx => exact ih.1 j off hj (by omega)
    · rw [if_neg ho] at h
      by_cases hv : x = v
      · refine ⟨fun j off hj hx => ?_, fun hx => absurd hv (by have := hx 0 (by simp); simpa using this)⟩
        have : j = 0 := by omega
        subst this
        simp at hj
        rw [← hj]
        exact h.1 hv
      · have ih := zk_tsw_pick l (v + 1) (h.2 hv)
        refine ⟨fun j off hj hx => ?_, fun hx => ih.2 (fun j hj => by have := hx (j + 1) (by simp; omega); omega)⟩
        match j, hj, hx with
        | 0, hj, hx => exact absurd (by omega) hv
        | j + 1, hj, hx => exact ih.1 j off hj (by omega)
theorem zk_chkJ_t {pc b c : Nat} {cs : List zk_E} {off : Int} (h : zk_chkJ pc b c cs off = true) : ∃ t : Nat, (pc : Int) + off = (t : Int) := by
  unfold zk_chkJ at h
  cases b with
  | zero => exact ⟨c, (eq_of_beq h).symm⟩
  | succ s =>
    simp only [zk_pcAt] at h
    split at h
    · cases h
    · exact ⟨_, (eq_of_beq h).symm⟩
theorem zk_sh_16' : ∀ k, k < 81 → zk_sh k ≠ 16 := by decide +kernel
theorem zk_sh_16 (k : Nat) : zk_sh k ≠ 16 := by
  intro h
  have := zk_sh_lt h (by omega)
  exact zk_sh_16' k (by omega) h
end zk_sound
end
section
/-! one instruction *-/
theorem zk_chk_drop {mid : Nat} : ∀ (k : Nat) (cs : List zk_E), zk_chk mid cs = true → zk_chk mid (cs.drop k) = true
  | 0, cs, h => h
  | k + 1, [], h => h
  | k + 1, e :: cs, h => zk_chk_drop k cs ((Bool.and_eq_true _ _).mp h).2
section zk_sound2
variable {mid pc a b c d : Nat} {z : Int} {cs : List zk_E} {K L : Nat → List zk_V → List zk_V → zk_M → Prop} {ls st : List zk_V} {μ : zk_M} {Q : Option zk_V → zk_M → Prop}
set_option maxHeartbeats 4000000 in
theorem zk_sound1 {i : Instr} (hm1 : 80 = zk_N1 mid + zk_mc mid) (hm2 : zk_SZ 80 = zk_SZ (zk_N1 mid) + zk_ms mid) (hc : zk_chkE mid (pc, i, a, b, z, c, d) cs = true) (hK : ∀ k ls st μ, K k ls st μ → ∃ e' cs', cs.drop k = e' :: cs' ∧ zk_K mid e'.1 ls st μ Q) (hL : ∀ pc ls st μ, L pc ls st μ → zk_K mid pc ls st μ Q)
    (h : zk_stp (pc, i, a, b, z, c, d) cs K L ls st μ Q) : zk_K mid pc ls st μ Q := by
  unfold zk_chkE at hc
  rw [Bool.and_eq_true] at hc
  obtain ⟨hc1, hc2⟩ := hc
  obtain ⟨len, hd, hln, hnx⟩ : ∃ len, decode (zk_cc mid) pc = .ok (i, len) ∧ len = zk_len i len ∧ (zk_pcAt cs 0 ((pc + len : Nat) : Int) || cs.isEmpty) = true := by
    split at hc1
    · rename_i i' len hdec
      rw [Bool.and_eq_true, Bool.and_eq_true] at hc1
      obtain ⟨⟨hi, hl⟩, hnx⟩ := hc1
      have hi : i' = i := of_decide_eq_true hi
      subst hi
      exact ⟨len, hdec, Nat.eq_of_beq_eq_true hl, hnx⟩
    · cases hc1
  have hn : ∀ ls st μ, K 0 ls st μ → zk_K mid (pc + len) ls st μ Q := fun ls st μ hk => by
    obtain ⟨e', cs', e1, e2⟩ := hK 0 ls st μ hk
    have e3 : (zk_pcAt cs 0 ((pc + len : Nat) : Int)) = true := by
      rcases Bool.or_eq_true_iff.mp hnx with q | q
      · exact q
      · have : cs = [] := List.isEmpty_iff.mp q
        rw [this] at e1
        cases e1
    have e4 := zk_pcAt_of e3 e1
    have e5 : e'.1 = pc + len := by omega
    rw [e5] at e2
    exact e2
  have hj : ∀ off ls st μ, zk_chkJ pc b c cs off = true → zk_j b c K L ls st μ → ∃ tgt : Nat, (pc : Int) + off = (tgt : Int) ∧ zk_K mid tgt ls st μ Q := fun off ls st μ hcj hk => by
    unfold zk_chkJ at hcj
    unfold zk_j at hk
    cases b with
    | zero => exact ⟨c, (eq_of_beq hcj).symm, hL _ _ _ _ hk⟩
    | succ s =>
      obtain ⟨e', cs', e1, e2⟩ := hK s ls st μ hk
      exact ⟨e'.1, (zk_pcAt_of hcj e1).symm, e2⟩
  clear hc1 hnx
  cases i with
  | iconst n =>
    simp only [zk_len] at hln
    subst hln
    exact zk_r_iconst hd (zk_rI_of' (of_decide_eq_true hc2)) (hn _ _ _ h)
  | bipush n =>
    simp only [zk_len] at hln
    subst hln
    simp only [zk_chkI, Bool.and_eq_true, decide_eq_true_eq] at hc2
    exact zk_r_bipush hd hc2.2 hc2.1 (hn _ _ _ h)
  | sipush n =>
    simp only [zk_len] at hln
    subst hln
    simp only [zk_chkI, Bool.and_eq_true, decide_eq_true_eq] at hc2
    exact zk_r_sipush hd hc2.2 hc2.1 (hn _ _ _ h)
  | lconst n =>
    simp only [zk_len] at hln
    subst hln
    have hz : z = ((n.val : Nat) : Int) := of_decide_eq_true hc2
    subst hz
    exact zk_r_lconst hd (by match n with | 0 => rfl | 1 => rfl) (by match n with | 0 => (unfold zk_rJ; decide) | 1 => (unfold zk_rJ; decide)) (hn _ _ _ h)
  | aconst_null =>
    simp only [zk_len] at hln
    subst hln
    exact zk_r_null hd (hn _ _ _ h)
  | ldc idx =>
    simp only [zk_len] at hln
    subst hln
    match d, hc2, h with
    | 0, hc2, h =>
      simp only [zk_chkI, Bool.and_eq_true, decide_eq_true_eq] at hc2
      exact zk_r_ldc hd (zk_in_CT (List.mem_map.mpr ⟨_, zk_elem hc2.1, rfl⟩)) hc2.2 (hn _ _ _ h)
    | d + 1, hc2, h =>
      simp only [zk_chkI, Bool.and_eq_true] at hc2
      exact zk_r_ldcS hd (Nat.eq_of_beq_eq_true hc2.1) (Nat.eq_of_beq_eq_true hc2.2) (hn _ _ _ h)
  | ldc_w idx =>
    simp only [zk_len] at hln
    subst hln
    simp only [zk_chkI, Bool.and_eq_true, decide_eq_true_eq] at hc2
    exact zk_r_ldcw hd (zk_in_CT (List.mem_map.mpr ⟨_, zk_elem hc2.1, rfl⟩)) hc2.2 (hn _ _ _ h)
  | ldc2_w idx =>
    simp only [zk_len] at hln
    subst hln
    simp only [zk_chkI, Bool.and_eq_true, decide_eq_true_eq] at hc2
    exact zk_r_ldc2 hd (zk_in_LT (List.mem_map.mpr ⟨_, zk_elem hc2.1, rfl⟩)) hc2.2 (hn _ _ _ h)
  | iload i =>
    simp only [zk_len] at hln
    subst hln
    simp only [zk_stp] at h
    split at h
    · rename_i hx; exact zk_r_iload hd hx (hn _ _ _ h)
    · exact h.elim
  | iload_n i =>
    simp only [zk_len] at hln
    subst hln
    simp only [zk_stp] at h
    split at h
    · rename_i hx; exact zk_r_iload_n hd hx (hn _ _ _ h)
    · exact h.elim
  | lload i =>
    simp only [zk_len] at hln
    subst hln
    simp only [zk_stp] at h
    split at h
    · rename_i hx; exact zk_r_lload hd hx (hn _ _ _ h)
    · exact h.elim
  | lload_n i =>
    simp only [zk_len] at hln
    subst hln
    simp only [zk_stp] at h
    split at h
    · rename_i hx; exact zk_r_lload_n hd hx (hn _ _ _ h)
    · exact h.elim
  | aload i =>
    simp only [zk_len] at hln
    subst hln
    simp only [zk_stp] at h
    split at h
    · rename_i hx; obtain ⟨h1, h2⟩ := zk_cond h; exact zk_r_aload hd hx h1 (hn _ _ _ h2)
    · exact h.elim
  | aload_n i =>
    simp only [zk_len] at hln
    subst hln
    simp only [zk_stp] at h
    split at h
    · rename_i hx; obtain ⟨h1, h2⟩ := zk_cond h; exact zk_r_aload_n hd hx h1 (hn _ _ _ h2)
    · exact h.elim
  | istore i =>
    simp only [zk_len] at hln
    subst hln
    simp only [zk_stp] at h
    split at h
    · obtain ⟨h1, h2⟩ := zk_cond h; exact zk_r_istore hd (Nat.blt_eq.mp hc2) (zk_nl_of h1) (hn _ _ _ h2)
    · exact h.elim
  | istore_n i =>
    simp only [zk_len] at hln
    subst hln
    simp only [zk_stp] at h
    split at h
    · obtain ⟨h1, h2⟩ := zk_cond h; exact zk_r_istore_n hd (Nat.blt_eq.mp hc2) (zk_nl_of h1) (hn _ _ _ h2)
    · exact h.elim
  | astore i =>
    simp only [zk_len] at hln
    subst hln
    simp only [zk_stp] at h
    split at h
    · obtain ⟨h1, h2⟩ := zk_cond h; rw [Bool.and_eq_true] at h1; exact zk_r_astore hd h1.1 (Nat.blt_eq.mp hc2) (zk_nl_of h1.2) (hn _ _ _ h2)
    · exact h.elim
  | astore_n i =>
    simp only [zk_len] at hln
    subst hln
    simp only [zk_stp] at h
    split at h
    · obtain ⟨h1, h2⟩ := zk_cond h; rw [Bool.and_eq_true] at h1; exact zk_r_astore_n hd h1.1 (Nat.blt_eq.mp hc2) (zk_nl_of h1.2) (hn _ _ _ h2)
    · exact h.elim
  | iinc i n =>
    simp only [zk_len] at hln
    subst hln
    simp only [zk_stp] at h
    split at h
    · rename_i hx; obtain ⟨h1, h2, h3⟩ := zk_cond h; exact zk_r_iinc hd hx (Nat.blt_eq.mp hc2) (zk_nl_of h1) h2 (hn _ _ _ h3)
    · exact h.elim
  | iadd =>
    simp only [zk_len] at hln
    subst hln
    simp only [zk_stp] at h
    split at h
    · exact zk_r_iadd hd h.1 (hn _ _ _ h.2)
    · exact h.elim
  | isub =>
    simp only [zk_len] at hln
    subst hln
    simp only [zk_stp] at h
    split at h
    · exact zk_r_isub hd h.1 (hn _ _ _ h.2)
    · exact h.elim
  | imul =>
    simp only [zk_len] at hln
    subst hln
    simp only [zk_stp] at h
    split at h
    · exact zk_r_imul hd h.1 (hn _ _ _ h.2)
    · exact h.elim
  | ineg =>
    simp only [zk_len] at hln
    subst hln
    simp only [zk_stp] at h
    split at h
    · exact zk_r_ineg hd h.1 (hn _ _ _ h.2)
    · exact h.elim
  | ladd =>
    simp only [zk_len] at hln
    subst hln
    simp only [zk_stp] at h
    split at h
    · exact zk_r_ladd hd h.1 (hn _ _ _ h.2)
    · exact h.elim
  | lsub =>
    simp only [zk_len] at hln
    subst hln
    simp only [zk_stp] at h
    split at h
    · exact zk_r_lsub hd h.1 (hn _ _ _ h.2)
    · exact h.elim
  | lmul =>
    simp only [zk_len] at hln
    subst hln
    simp only [zk_stp] at h
    split at h
    · exact zk_r_lmul hd h.1 (hn _ _ _ h.2)
    · exact h.elim
  | lneg =>
    simp only [zk_len] at hln
    subst hln
    simp only [zk_stp] at h
    split at h
    · exact zk_r_lneg hd h.1 (hn _ _ _ h.2)
    · exact h.elim
  | l2i =>
    simp only [zk_len] at hln
    subst hln
    simp only [zk_stp] at h
    split at h
    · exact zk_r_l2i hd h.1 (hn _ _ _ h.2)
    · exact h.elim
  | idiv =>
    simp only [zk_len] at hln
    subst hln
    simp only [zk_stp] at h
    split at h
    · exact zk_r_idiv hd h.1.1 h.1.2 (hn _ _ _ h.2)
    · exact h.elim
  | irem =>
    simp only [zk_len] at hln
    subst hln
    simp only [zk_stp] at h
    split at h
    · exact zk_r_irem hd h.1.1 h.1.2 (hn _ _ _ h.2)
    · exact h.elim
  | ldiv =>
    simp only [zk_len] at hln
    subst hln
    simp only [zk_stp] at h
    split at h
    · exact zk_r_ldiv hd h.1.1 h.1.2 (hn _ _ _ h.2)
    · exact h.elim
  | i2c =>
    simp only [zk_len] at hln
    subst hln
    simp only [zk_stp] at h
    split at h
    · exact zk_r_i2c hd h.1.1 h.1.2 (hn _ _ _ h.2)
    · exact h.elim
  | iand =>
    simp only [zk_len] at hln
    subst hln
    simp only [zk_stp] at h
    split at h
    · exact zk_r_iand hd (hn _ _ _ h)
    · exact h.elim
  | ior =>
    simp only [zk_len] at hln
    subst hln
    simp only [zk_stp] at h
    split at h
    · exact zk_r_ior hd (hn _ _ _ h)
    · exact h.elim
  | ixor =>
    simp only [zk_len] at hln
    subst hln
    simp only [zk_stp] at h
    split at h
    · exact zk_r_ixor hd (hn _ _ _ h)
    · exact h.elim
  | ishl =>
    simp only [zk_len] at hln
    subst hln
    simp only [zk_stp] at h
    split at h
    · exact zk_r_ishl hd (hn _ _ _ h)
    · exact h.elim
  | ishr =>
    simp only [zk_len] at hln
    subst hln
    simp only [zk_stp] at h
    split at h
    · exact zk_r_ishr hd (hn _ _ _ h)
    · exact h.elim
  | iushr =>
    simp only [zk_len] at hln
    subst hln
    simp only [zk_stp] at h
    split at h
    · exact zk_r_iushr hd (hn _ _ _ h)
    · exact h.elim
  | lor =>
    simp only [zk_len] at hln
    subst hln
    simp only [zk_stp] at h
    split at h
    · exact zk_r_lor hd (hn _ _ _ h)
    · exact h.elim
  | lshl =>
    simp only [zk_len] at hln
    subst hln
    simp only [zk_stp] at h
    split at h
    · exact zk_r_lshl hd (hn _ _ _ h)
    · exact h.elim
  | lcmp =>
    simp only [zk_len] at hln
    subst hln
    simp only [zk_stp] at h
    split at h
    · exact zk_r_lcmp hd (hn _ _ _ h)
    · exact h.elim
  | i2l =>
    simp only [zk_len] at hln
    subst hln
    simp only [zk_stp] at h
    split at h
    · exact zk_r_i2l hd (hn _ _ _ h)
    · exact h.elim
  | dup =>
    simp only [zk_len] at hln
    subst hln
    simp only [zk_stp] at h
    split at h
    · exact zk_r_dup hd (fun _ q => by cases q) (hn _ _ _ h)
    · exact zk_r_dup hd (fun _ q => by cases q) (hn _ _ _ h)
    · exact h.elim
  | pop =>
    simp only [zk_len] at hln
    subst hln
    simp only [zk_stp] at h
    split at h
    · exact zk_r_pop hd (fun _ q => by cases q) (hn _ _ _ h)
    · exact zk_r_pop hd (fun _ q => by cases q) (hn _ _ _ h)
    · exact h.elim
  | dup2 =>
    simp only [zk_len] at hln
    subst hln
    simp only [zk_stp] at h
    split at h
    · exact zk_r_dup2 hd (fun _ q => by cases q) (fun _ q => by cases q) (hn _ _ _ h)
    · exact h.elim
  | goto off =>
    simp only [zk_len] at hln
    subst hln
    obtain ⟨t, e1, e2⟩ := hj off _ _ _ hc2 h
    exact zk_r_goto hd e1 e2
  | ifCond cnd off =>
    simp only [zk_len] at hln
    subst hln
    simp only [zk_stp] at h
    split at h
    · rename_i x st'
      cases cnd with
      | eq =>
        obtain ⟨q1, q2⟩ := h
        by_cases hb : (zk_j b c K L ls st' μ)
        · obtain ⟨t, e1, e2⟩ := hj off _ _ _ hc2 hb
          exact zk_r_if_eq hd e1 (fun _ => e2) (fun q => hn _ _ _ (q2 q))
        · obtain ⟨t, e1⟩ : ∃ t : Nat, (pc : Int) + off = (t : Int) := zk_chkJ_t hc2
          exact zk_r_if_eq hd e1 (fun q => absurd (q1 q) hb) (fun q => hn _ _ _ (q2 q))
      | ne =>
        obtain ⟨q1, q2⟩ := h
        by_cases hb : (zk_j b c K L ls st' μ)
        · obtain ⟨t, e1, e2⟩ := hj off _ _ _ hc2 hb
          exact zk_r_if_ne hd e1 (fun _ => e2) (fun q => hn _ _ _ (q2 q))
        · obtain ⟨t, e1⟩ : ∃ t : Nat, (pc : Int) + off = (t : Int) := zk_chkJ_t hc2
          exact zk_r_if_ne hd e1 (fun q => absurd (q1 q) hb) (fun q => hn _ _ _ (q2 q))
      | lt =>
        obtain ⟨q1, q2⟩ := h
        by_cases hb : (zk_j b c K L ls st' μ)
        · obtain ⟨t, e1, e2⟩ := hj off _ _ _ hc2 hb
          exact zk_r_if_lt hd e1 (fun _ => e2) (fun q => hn _ _ _ (q2 q))
        · obtain ⟨t, e1⟩ : ∃ t : Nat, (pc : Int) + off = (t : Int) := zk_chkJ_t hc2
          exact zk_r_if_lt hd e1 (fun q => absurd (q1 q) hb) (fun q => hn _ _ _ (q2 q))
      | ge =>
        obtain ⟨q1, q2⟩ := h
        by_cases hb : (zk_j b c K L ls st' μ)
        · obtain ⟨t, e1, e2⟩ := hj off _ _ _ hc2 hb
          exact zk_r_if_ge hd e1 (fun _ => e2) (fun q => hn _ _ _ (q2 q))
        · obtain ⟨t, e1⟩ : ∃ t : Nat, (pc : Int) + off = (t : Int) := zk_chkJ_t hc2
          exact zk_r_if_ge hd e1 (fun q => absurd (q1 q) hb) (fun q => hn _ _ _ (q2 q))
      | gt =>
        obtain ⟨q1, q2⟩ := h
        by_cases hb : (zk_j b c K L ls st' μ)
        · obtain ⟨t, e1, e2⟩ := hj off _ _ _ hc2 hb
          exact zk_r_if_gt hd e1 (fun _ => e2) (fun q => hn _ _ _ (q2 q))
        · obtain ⟨t, e1⟩ : ∃ t : Nat, (pc : Int) + off = (t : Int) := zk_chkJ_t hc2
          exact zk_r_if_gt hd e1 (fun q => absurd (q1 q) hb) (fun q => hn _ _ _ (q2 q))
      | le =>
        obtain ⟨q1, q2⟩ := h
        by_cases hb : (zk_j b c K L ls st' μ)
        · obtain ⟨t, e1, e2⟩ := hj off _ _ _ hc2 hb
          exact zk_r_if_le hd e1 (fun _ => e2) (fun q => hn _ _ _ (q2 q))
        · obtain ⟨t, e1⟩ : ∃ t : Nat, (pc : Int) + off = (t : Int) := zk_chkJ_t hc2
          exact zk_r_if_le hd e1 (fun q => absurd (q1 q) hb) (fun q => hn _ _ _ (q2 q))
    · exact h.elim
  | if_icmp cnd off =>
    simp only [zk_len] at hln
    subst hln
    simp only [zk_stp] at h
    split at h
    · rename_i y x st'
      cases cnd with
      | eq =>
        obtain ⟨q1, q2⟩ := h
        by_cases hb : (zk_j b c K L ls st' μ)
        · obtain ⟨t, e1, e2⟩ := hj off _ _ _ hc2 hb
          exact zk_r_icmp_eq hd e1 (fun _ => e2) (fun q => hn _ _ _ (q2 q))
        · obtain ⟨t, e1⟩ : ∃ t : Nat, (pc : Int) + off = (t : Int) := zk_chkJ_t hc2
          exact zk_r_icmp_eq hd e1 (fun q => absurd (q1 q) hb) (fun q => hn _ _ _ (q2 q))
      | ne =>
        obtain ⟨q1, q2⟩ := h
        by_cases hb : (zk_j b c K L ls st' μ)
        · obtain ⟨t, e1, e2⟩ := hj off _ _ _ hc2 hb
          exact zk_r_icmp_ne hd e1 (fun _ => e2) (fun q => hn _ _ _ (q2 q))
        · obtain ⟨t, e1⟩ : ∃ t : Nat, (pc : Int) + off = (t : Int) := zk_chkJ_t hc2
          exact zk_r_icmp_ne hd e1 (fun q => absurd (q1 q) hb) (fun q => hn _ _ _ (q2 q))
      | lt =>
        obtain ⟨q1, q2⟩ := h
        by_cases hb : (zk_j b c K L ls st' μ)
        · obtain ⟨t, e1, e2⟩ := hj off _ _ _ hc2 hb
          exact zk_r_icmp_lt hd e1 (fun _ => e2) (fun q => hn _ _ _ (q2 q))
        · obtain ⟨t, e1⟩ : ∃ t : Nat, (pc : Int) + off = (t : Int) := zk_chkJ_t hc2
          exact zk_r_icmp_lt hd e1 (fun q => absurd (q1 q) hb) (fun q => hn _ _ _ (q2 q))
      | ge =>
        obtain ⟨q1, q2⟩ := h
        by_cases hb : (zk_j b c K L ls st' μ)
        · obtain ⟨t, e1, e2⟩ := hj off _ _ _ hc2 hb
          exact zk_r_icmp_ge hd e1 (fun _ => e2) (fun q => hn _ _ _ (q2 q))
        · obtain ⟨t, e1⟩ : ∃ t : Nat, (pc : Int) + off = (t : Int) := zk_chkJ_t hc2
          exact zk_r_icmp_ge hd e1 (fun q => absurd (q1 q) hb) (fun q => hn _ _ _ (q2 q))
      | gt =>
        obtain ⟨q1, q2⟩ := h
        by_cases hb : (zk_j b c K L ls st' μ)
        · obtain ⟨t, e1, e2⟩ := hj off _ _ _ hc2 hb
          exact zk_r_icmp_gt hd e1 (fun _ => e2) (fun q => hn _ _ _ (q2 q))
        · obtain ⟨t, e1⟩ : ∃ t : Nat, (pc : Int) + off = (t : Int) := zk_chkJ_t hc2
          exact zk_r_icmp_gt hd e1 (fun q => absurd (q1 q) hb) (fun q => hn _ _ _ (q2 q))
      | le =>
        obtain ⟨q1, q2⟩ := h
        by_cases hb : (zk_j b c K L ls st' μ)
        · obtain ⟨t, e1, e2⟩ := hj off _ _ _ hc2 hb
          exact zk_r_icmp_le hd e1 (fun _ => e2) (fun q => hn _ _ _ (q2 q))
        · obtain ⟨t, e1⟩ : ∃ t : Nat, (pc : Int) + off = (t : Int) := zk_chkJ_t hc2
          exact zk_r_icmp_le hd e1 (fun q => absurd (q1 q) hb) (fun q => hn _ _ _ (q2 q))
    · exact h.elim
  | ifnull off =>
    simp only [zk_len] at hln
    subst hln
    simp only [zk_stp] at h
    split at h
    · rename_i r st
      by_cases hb : (zk_j b c K L ls st μ)
      · obtain ⟨t, e1, e2⟩ := hj off _ _ _ hc2 hb
        exact zk_r_ifnull hd e1 (fun _ => e2) (fun q => hn _ _ _ (h.2 q))
      · obtain ⟨t, e1⟩ : ∃ t : Nat, (pc : Int) + off = (t : Int) := zk_chkJ_t hc2
        exact zk_r_ifnull hd e1 (fun q => absurd (h.1 q) hb) (fun q => hn _ _ _ (h.2 q))
    · exact h.elim
  | ifnonnull off =>
    simp only [zk_len] at hln
    subst hln
    simp only [zk_stp] at h
    split at h
    · rename_i r st
      by_cases hb : (zk_j b c K L ls st μ)
      · obtain ⟨t, e1, e2⟩ := hj off _ _ _ hc2 hb
        exact zk_r_ifnonnull hd e1 (fun _ => e2) (fun q => hn _ _ _ (h.2 (Decidable.not_not.mp q)))
      · obtain ⟨t, e1⟩ : ∃ t : Nat, (pc : Int) + off = (t : Int) := zk_chkJ_t hc2
        exact zk_r_ifnonnull hd e1 (fun q => absurd (h.1 q) hb) (fun q => hn _ _ _ (h.2 (Decidable.not_not.mp q)))
    · exact h.elim
  | tableswitch dflt lo hi offs =>
    simp only [zk_stp] at h
    split at h
    · rename_i x st
      simp only [zk_chkI, Bool.and_eq_true, decide_eq_true_eq] at hc2
      obtain ⟨⟨hc3, hc4⟩, hc5⟩ := hc2
      obtain ⟨p1, p2⟩ := zk_tsw_pick _ _ h
      by_cases hin : lo ≤ x ∧ x ≤ hi
      · have hlt : (x - lo).toNat < offs.toList.length := by omega
        have hget : offs.toList[(x - lo).toNat]? = some offs.toList[(x - lo).toNat] := List.getElem?_eq_getElem hlt
        have hk := p1 (x - lo).toNat _ hget (by omega)
        obtain ⟨e', cs', e1, e2⟩ := hK _ _ _ _ hk
        have e3 := zk_pcAt_of (List.all_eq_true.mp hc4 _ (List.getElem_mem hlt)) e1
        exact zk_r_tsIn hd hin.1 hin.2 (by rw [← Array.getElem?_toList]; exact hget) e3.symm e2
      · have hk := p2 (fun j hj => by omega)
        obtain ⟨e', cs', e1, e2⟩ := hK _ _ _ _ hk
        exact zk_r_tsOut hd (by omega) (zk_pcAt_of hc3 e1).symm e2
    · exact h.elim
  | getfield idx =>
    simp only [zk_len] at hln
    subst hln
    simp only [zk_stp] at h
    split at h
    · obtain ⟨h1, h2⟩ := zk_cond h
      simp only [zk_chkI, Bool.and_eq_true, decide_eq_true_eq] at hc2
      obtain ⟨q1, q2, q3⟩ := hc2
      have hr := zk_elem q1
      have hsh := Nat.eq_of_beq_eq_true h1
      have hlt := zk_sh_lt hsh (by have := (zk_FL_ok _ hr).1; simp at this; omega)
      subst q2
      have q3 := Nat.eq_of_beq_eq_true q3
      subst q3
      rw [← zk_fvN_eq] at h2
      exact zk_r_getf hd hr hsh hlt.1 hlt.2 (hn _ _ _ h2)
    · exact h.elim
  | putfield idx =>
    simp only [zk_len] at hln
    subst hln
    simp only [zk_chkI, Bool.and_eq_true, decide_eq_true_eq, Bool.not_eq_true'] at hc2
    obtain ⟨q1, q2, q3, q4⟩ := hc2
    have hr := zk_elem q1
    have q3 := Nat.eq_of_beq_eq_true q3
    subst q2
    simp only [zk_stp] at h
    split at h
    · obtain ⟨h1, h2⟩ := zk_cond h
      have hsh := Nat.eq_of_beq_eq_true h1
      have hlt := zk_sh_lt hsh (by have := (zk_FL_ok _ hr).1; simp at this; omega)
      exact zk_r_puti hd hr hsh hlt.1 hlt.2 q4 q3 (hn _ _ _ h2)
    · obtain ⟨h1, h2⟩ := zk_cond h
      have hsh := Nat.eq_of_beq_eq_true h1
      have hlt := zk_sh_lt hsh (by have := (zk_FL_ok _ hr).1; simp at this; omega)
      exact zk_r_putl hd hr hsh hlt.1 hlt.2 q4 q3 (hn _ _ _ h2)
    · obtain ⟨h1, h2, h3⟩ := zk_cond h
      have hsh := Nat.eq_of_beq_eq_true h1
      have hlt := zk_sh_lt hsh (by have := (zk_FL_ok _ hr).1; simp at this; omega)
      exact zk_r_putz hd hr hsh hlt.1 hlt.2 q4 q3 h2 (hn _ _ _ h3)
    · exact h.elim
  | baload =>
    simp only [zk_len] at hln
    subst hln
    simp only [zk_stp] at h
    split at h
    · obtain ⟨h1, h2, h3⟩ := zk_cond h
      have hsh := Nat.eq_of_beq_eq_true h1
      have hlt := zk_sh_lt hsh (by omega)
      exact zk_r_zald hd hsh hlt.1 hlt.2 h2.1 h2.2 (hn _ _ _ h3)
    · exact h.elim
  | caload =>
    simp only [zk_len] at hln
    subst hln
    simp only [zk_stp] at h
    split at h
    · obtain ⟨h1, h2, h3⟩ := zk_cond h
      have hsh := Nat.eq_of_beq_eq_true h1
      have hlt := zk_sh_lt hsh (by omega)
      exact zk_r_cald hd hsh hlt.1 hlt.2 h2.1 h2.2 (hn _ _ _ h3)
    · exact h.elim
  | laload =>
    simp only [zk_len] at hln
    subst hln
    simp only [zk_stp] at h
    split at h
    · obtain ⟨h1, h2, h3⟩ := zk_cond h
      have hsh := Nat.eq_of_beq_eq_true h1
      have hlt := zk_sh_lt hsh (by omega)
      exact zk_r_lald hd hsh hlt.1 hlt.2 h2.1 h2.2 (hn _ _ _ h3)
    · exact h.elim
  | aaload =>
    simp only [zk_len] at hln
    subst hln
    simp only [zk_stp] at h
    split at h
    · obtain ⟨h1, h2, h3⟩ := zk_cond h
      have hsh := Nat.eq_of_beq_eq_true h1
      have hlt := zk_sh_lt hsh (by omega)
      exact zk_r_aald hd hsh hlt.1 hlt.2 h2.1 h2.2 (hn _ _ _ h3)
    · exact h.elim
  | iaload =>
    simp only [zk_len] at hln
    subst hln
    simp only [zk_stp] at h
    split at h
    · obtain ⟨h1, h2, h3⟩ := zk_cond h
      have hsh := Nat.eq_of_beq_eq_true h1
      have hlt := zk_sh_lt hsh (by omega)
      exact zk_r_iald hd hsh hlt.1 hlt.2 h2.1 h2.2 (hn _ _ _ h3)
    · obtain ⟨h1, h2, h3⟩ := zk_cond h
      have := Nat.eq_of_beq_eq_true h1
      subst this
      exact zk_r_sald hd h2.1 h2.2 (hn _ _ _ h3)
    · exact h.elim
  | arraylength =>
    simp only [zk_len] at hln
    subst hln
    simp only [zk_stp] at h
    split at h
    · obtain ⟨h1, h2⟩ := zk_cond h
      have hsh : zk_sh _ = 100 ∨ zk_sh _ = 103 := (Bool.or_eq_true_iff.mp h1).imp Nat.eq_of_beq_eq_true Nat.eq_of_beq_eq_true
      have hlt := hsh.elim (fun q => zk_sh_lt q (by omega)) (fun q => zk_sh_lt q (by omega))
      exact zk_r_alen hd hsh hlt.1 hlt.2 (hn _ _ _ h2)
    · obtain ⟨h1, h2⟩ := zk_cond h
      have := Nat.eq_of_beq_eq_true h1
      subst this
      exact zk_r_slen hd (hn _ _ _ h2)
    · exact h.elim
  | iastore =>
    simp only [zk_len] at hln
    subst hln
    simp only [zk_stp] at h
    split at h
    · obtain ⟨h1, h2, h3⟩ := zk_cond h
      have hsh := Nat.eq_of_beq_eq_true h1
      have hlt := zk_sh_lt hsh (by omega)
      exact zk_r_iast hd hsh hlt.1 hlt.2 h2.1 h2.2 (hn _ _ _ h3)
    · exact h.elim
  | lastore =>
    simp only [zk_len] at hln
    subst hln
    simp only [zk_stp] at h
    split at h
    · obtain ⟨h1, h2, h3⟩ := zk_cond h
      have hsh := Nat.eq_of_beq_eq_true h1
      have hlt := zk_sh_lt hsh (by omega)
      exact zk_r_last hd hsh hlt.1 hlt.2 h2.1 h2.2 (hn _ _ _ h3)
    · exact h.elim
  | bastore =>
    simp only [zk_len] at hln
    subst hln
    simp only [zk_stp] at h
    split at h
    · obtain ⟨h1, h2, h3, h4⟩ := zk_cond h
      have hsh := Nat.eq_of_beq_eq_true h1
      have hlt := zk_sh_lt hsh (by omega)
      exact zk_r_zast hd hsh hlt.1 hlt.2 h2.1 h2.2 h3 (hn _ _ _ h4)
    · exact h.elim
  | castore =>
    simp only [zk_len] at hln
    subst hln
    simp only [zk_stp] at h
    split at h
    · obtain ⟨h1, h2, h3, h4⟩ := zk_cond h
      have hsh := Nat.eq_of_beq_eq_true h1
      have hlt := zk_sh_lt hsh (by omega)
      exact zk_r_cast hd hsh hlt.1 hlt.2 h2.1 h2.2 h3.1 h3.2 (hn _ _ _ h4)
    · exact h.elim
  | invokevirtual idx =>
    simp only [zk_len] at hln
    subst hln
    simp only [zk_stp] at h
    obtain ⟨h1, h2⟩ := zk_cond h
    simp only [Bool.and_eq_true] at h1
    obtain ⟨h3, h4, h5⟩ := h1
    simp only [zk_chkI, Bool.and_eq_true] at hc2
    obtain ⟨g1, g2, g3, g4⟩ := hc2
    obtain ⟨r1, r2, r3, r4, r5, r6, r7⟩ := zk_chkC_of g1
    obtain ⟨Q1, k1, k2⟩ := zk_inv_sound hn hL h2
    have g3 := Nat.eq_of_beq_eq_true g3
    have h3 := Nat.eq_of_beq_eq_true h3
    generalize hA : (st.take c).reverse = A at h4 k1
    have hst : st = A.reverse ++ st.drop c := by rw [← hA]; exact zk_take
    have hlen : A.length = c := by rw [← hA, List.length_reverse]; exact h3
    rw [hst]
    match A, h4, k1, hlen with
    | .inr (.inr (.inl k)) :: as, h4, k1, hlen =>
      have hsh := Nat.eq_of_beq_eq_true h4
      have ha : a < 13 := by
        rcases Bool.or_eq_true_iff.mp g4 with q | q
        · exact Nat.blt_eq.mp q
        · exact absurd (hsh.trans (Nat.eq_of_beq_eq_true q)) (zk_sh_16 k)
      have hlt := zk_sh_lt hsh (by omega)
      rw [List.reverse_cons, List.append_assoc]
      exact zk_r_invV hd r1 r2 (Nat.eq_of_beq_eq_true g2) (by rw [← g3]; exact ha) (by rw [← g3]; exact hsh) hlt.1 hlt.2 (by simp at hlen; omega) (Nat.le_of_ble_eq_true h5) r4 r5 (by rw [r6]; exact Nat.le_of_eq hm1) (by rw [r7]; exact Nat.le_of_eq hm2) k1 k2
    | .inr (.inr (.inr n)) :: as, h4, k1, hlen =>
      have h4 := (Bool.and_eq_true _ _).mp h4
      have e1 := Nat.eq_of_beq_eq_true h4.1
      have e2 := Nat.eq_of_beq_eq_true h4.2
      subst e1
      rw [List.reverse_cons, List.append_assoc]
      exact zk_r_invVS hd r1 r2 (Nat.eq_of_beq_eq_true g2) (by rw [← g3, e2]; rfl) (by simp at hlen; omega) (Nat.le_of_ble_eq_true h5) r4 r5 (by rw [r6]; exact Nat.le_of_eq hm1) (by rw [r7]; exact Nat.le_of_eq hm2) k1 k2
  | invokestatic idx =>
    simp only [zk_len] at hln
    subst hln
    match a, hc2, h with
    | 0, hc2, h =>
      simp only [zk_stp] at h
      obtain ⟨h1, h2⟩ := zk_cond h
      simp only [Bool.and_eq_true] at h1
      obtain ⟨h3, h5⟩ := h1
      simp only [zk_chkI, Bool.and_eq_true] at hc2
      obtain ⟨g1, g2⟩ := hc2
      obtain ⟨r1, r2, r3, r4, r5, r6, r7⟩ := zk_chkC_of g1
      obtain ⟨Q1, k1, k2⟩ := zk_inv_sound hn hL h2
      have h3 := Nat.eq_of_beq_eq_true h3
      have hst : st = ((st.take c).reverse).reverse ++ st.drop c := zk_take
      rw [hst]
      exact zk_r_invS hd r1 r2 (Nat.eq_of_beq_eq_true g2) (by rw [List.length_reverse]; omega) (Nat.le_of_ble_eq_true h5) r4 r5 (by rw [r6]; exact Nat.le_of_eq hm1) (by rw [r7]; exact Nat.le_of_eq hm2) k1 k2
    | a + 1, hc2, h =>
      simp only [zk_stp] at h
      split at h
      · obtain ⟨h1, h2, h3⟩ := zk_cond h
        simp only [Bool.and_eq_true] at h1
        obtain ⟨g1, g2, g3⟩ := h1
        simp only [zk_chkI, Bool.and_eq_true] at hc2
        obtain ⟨r1, r2, r3⟩ := hc2
        have s1 := Nat.eq_of_beq_eq_true g1
        have s2 := Nat.eq_of_beq_eq_true g2
        exact zk_r_copy hd (zk_elem r1) rfl s1 s2 (zk_sh_lt s1 (by omega)) (zk_sh_lt s2 (by omega)) h2.1 h2.2.1 h2.2.2.1 h2.2.2.2.1 h2.2.2.2.2 (Nat.le_of_ble_eq_true g3) (Nat.le_of_ble_eq_true r2) (Nat.le_of_ble_eq_true r3) (hn _ _ _ h3)
      · exact h.elim
  | ireturn =>
    simp only [zk_len] at hln
    subst hln
    simp only [zk_stp] at h
    split at h
    · exact zk_r_ret (v := some (.inl _)) ⟨μ, rfl, h⟩ ⟨hd, .int, of_decide_eq_true hc2, rfl⟩ hm1 hm2
    · obtain ⟨h1, h2⟩ := zk_cond h
      exact zk_r_ret (v := some (.inl _)) ⟨μ, rfl, h2⟩ ⟨hd, .boolean, of_decide_eq_true hc2, by rcases of_decide_eq_true h1 with rfl | rfl <;> rfl⟩ hm1 hm2
    · exact zk_r_ret (v := some (.inl _)) ⟨μ, rfl, h.2⟩ ⟨hd, .boolean, of_decide_eq_true hc2, by rcases h.1 with rfl | rfl <;> rfl⟩ hm1 hm2
    · exact h.elim
  | lreturn =>
    simp only [zk_len] at hln
    subst hln
    simp only [zk_stp] at h
    split at h
    · exact zk_r_ret (v := some (.inr (.inl _))) ⟨μ, rfl, h⟩ ⟨hd, of_decide_eq_true hc2⟩ hm1 hm2
    · exact h.elim
  | areturn =>
    simp only [zk_len] at hln
    subst hln
    simp only [zk_stp] at h
    split at h
    · have hr := Nat.eq_of_beq_eq_true hc2
      refine zk_r_ret (v := some (.inr (.inr (.inl _)))) ⟨μ, rfl, h⟩ ⟨hd, ?_⟩ hm1 hm2
      revert hr
      generalize zk_rt mid = r
      intro hr
      unfold zk_rk at hr
      split at hr
      · cases hr
      · cases hr
      · exact ⟨_, rfl⟩
      · cases hr
    · exact h.elim
  | return_ =>
    simp only [zk_len] at hln
    subst hln
    simp only [zk_stp] at h
    split at h
    · exact zk_r_ret (v := none) ⟨μ, rfl, h⟩ ⟨hd, of_decide_eq_true hc2⟩ hm1 hm2
    · exact h.elim
  | _ => exact h.elim
theorem zk_sound {mid : Nat} (hm1 : 80 = zk_N1 mid + zk_mc mid) (hm2 : zk_SZ 80 = zk_SZ (zk_N1 mid) + zk_ms mid) (cuts : List Nat) {Q : Option zk_V → zk_M → Prop} : ∀ (n : Nat) (e : zk_E) (cs : List zk_E) (ls st : List zk_V) (μ : zk_M), zk_chk mid (e :: cs) = true → zk_wp mid cuts Q n (e :: cs) ls st μ → zk_K mid e.1 ls st μ Q
  | 0, _, _, _, _, _, _, h => h.elim
  | n + 1, e, cs, ls, st, μ, hc, h => by
    have hc1 := (Bool.and_eq_true _ _).mp hc
    refine zk_sound1 hm1 hm2 hc1.1 (fun k ls st μ hk => ?_) (fun pc ls st μ hl => hl) h
    have hk : (match cs.drop k with
      | [] => False
      | e' :: cs' => cond (cuts.elem e'.1) (zk_K mid e'.1 ls st μ Q) (zk_wp mid cuts Q n (e' :: cs') ls st μ)) := hk
    cases hd : cs.drop k with
    | nil => rw [hd] at hk; exact hk.elim
    | cons e' cs' =>
      rw [hd] at hk
      refine ⟨e', cs', rfl, ?_⟩
      have hk : cond (cuts.elem e'.1) (zk_K mid e'.1 ls st μ Q) (zk_wp mid cuts Q n (e' :: cs') ls st μ) := hk
      have hch : zk_chk mid (e' :: cs') = true := by
        rw [← hd]
        exact zk_chk_drop k cs hc1.2
      cases hcut : cuts.elem e'.1 with
      | true => rw [hcut] at hk; exact hk
      | false => rw [hcut] at hk; exact zk_sound hm1 hm2 cuts n e' cs' ls st μ hch hk
end zk_sound2
end
section
/-! what is dead may be forgotten *-/
def zk_fg : List Bool → List zk_V → List zk_V
  | true :: m, v :: ls => v :: zk_fg m ls
  | false :: m, _ :: ls => .inr (.inr (.inr 0)) :: zk_fg m ls
  | _, _ => []
theorem zk_fg_at : ∀ (m : List Bool) (ls : List zk_V) (i : Nat) (v : zk_V), (zk_fg m ls)[i]? = some v → zk_real v = true → ls[i]? = some v
  | true :: m, w :: ls, 0, v, h, _ => h
  | true :: m, w :: ls, i + 1, v, h, hr => zk_fg_at m ls i v h hr
  | false :: m, w :: ls, 0, v, h, hr => by cases h; exact absurd hr (by decide)
  | false :: m, w :: ls, i + 1, v, h, hr => zk_fg_at m ls i v h hr
  | [], ls, i, v, h, _ => by cases ls <;> simp [zk_fg] at h
  | true :: m, [], i, v, h, _ => by simp [zk_fg] at h
  | false :: m, [], i, v, h, _ => by simp [zk_fg] at h
theorem zk_fg_mem : ∀ (m : List Bool) (ls : List zk_V) (v : zk_V), v ∈ zk_fg m ls → v ∈ ls ∨ v = .inr (.inr (.inr 0))
  | true :: m, w :: ls, v, h => by
    rcases List.mem_cons.mp h with q | q
    · exact Or.inl (by rw [q]; exact List.mem_cons_self)
    · exact (zk_fg_mem m ls v q).imp (List.mem_cons_of_mem _) id
  | false :: m, w :: ls, v, h => by
    rcases List.mem_cons.mp h with q | q
    · exact Or.inr q
    · exact (zk_fg_mem m ls v q).imp (List.mem_cons_of_mem _) id
  | [], ls, v, h => by cases ls <;> simp [zk_fg] at h
  | true :: m, [], v, h => by simp [zk_fg] at h
  | false :: m, [], v, h => by simp [zk_fg] at h
theorem zk_forget {mid pc : Nat} {ls st : List zk_V} {μ : zk_M} {Q : Option zk_V → zk_M → Prop} (m : List Bool) (k : zk_K mid pc (zk_fg m ls) st μ Q) : zk_K mid pc ls st μ Q := by
  intro g p l e R s mm args below meth c Z C hr H locs cells slots la hl h1 h2 hR hM hS hc
  refine k g p l e R s mm args below meth c Z C hr H locs cells slots la ⟨hl.1, hl.2.1, fun i v hi hv => hl.2.2 i v (zk_fg_at m ls i v hi hv) hv⟩ (fun v hv => ?_) h2 hR hM hS hc
  rcases zk_fg_mem m ls v hv with q | q
  · exact h1 v q
  · rw [q]; trivial
/-- at a cut: what lives there -/
def zk_lf (mid : Nat) (cuts : List (Nat × List Bool)) (pc : Nat) (ls st : List zk_V) (μ : zk_M) (Q : Option zk_V → zk_M → Prop) : Prop := match cuts.lookup pc with
  | some m => zk_K mid pc (zk_fg m ls) st μ Q
  | none => zk_K mid pc ls st μ Q
theorem zk_lf_of {mid pc : Nat} {cuts : List (Nat × List Bool)} {ls st : List zk_V} {μ : zk_M} {Q : Option zk_V → zk_M → Prop} (h : zk_lf mid cuts pc ls st μ Q) : zk_K mid pc ls st μ Q := by
  unfold zk_lf at h
  split at h
  · exact zk_forget _ h
  · exact h
def zk_wq (mid : Nat) (cuts : List (Nat × List Bool)) (Q : Option zk_V → zk_M → Prop) : Nat → List zk_E → List zk_V → List zk_V → zk_M → Prop
  | 0, _, _, _, _ => False
  | _ + 1, [], _, _, _ => False
  | n + 1, e :: cs, ls, st, μ => zk_stp e cs (fun k ls st μ => match cs.drop k with
      | [] => False
      | e' :: cs' => match cuts.lookup e'.1 with
        | some m => zk_K mid e'.1 (zk_fg m ls) st μ Q
        | none => zk_wq mid cuts Q n (e' :: cs') ls st μ) (fun pc ls st μ => zk_lf mid cuts pc ls st μ Q) ls st μ Q
theorem zk_soundq {mid : Nat} (hm1 : 80 = zk_N1 mid + zk_mc mid) (hm2 : zk_SZ 80 = zk_SZ (zk_N1 mid) + zk_ms mid) (cuts : List (Nat × List Bool)) {Q : Option zk_V → zk_M → Prop} : ∀ (n : Nat) (e : zk_E) (cs : List zk_E) (ls st : List zk_V) (μ : zk_M), zk_chk mid (e :: cs) = true → zk_wq mid cuts Q n (e :: cs) ls st μ → zk_K mid e.1 ls st μ Q
  | 0, _, _, _, _, _, _, h => h.elim
  | n + 1, e, cs, ls, st, μ, hc, h => by
    have hc1 := (Bool.and_eq_true _ _).mp hc
    refine zk_sound1 hm1 hm2 hc1.1 (fun k ls st μ hk => ?_) (fun pc ls st μ hl => zk_lf_of hl) h
    have hk : (match cs.drop k with
      | [] => False
      | e' :: cs' => match cuts.lookup e'.1 with
        | some m => zk_K mid e'.1 (zk_fg m ls) st μ Q
        | none => zk_wq mid cuts Q n (e' :: cs') ls st μ) := hk
    cases hd : cs.drop k with
    | nil => rw [hd] at hk; exact hk.elim
    | cons e' cs' =>
      rw [hd] at hk
      refine ⟨e', cs', rfl, ?_⟩
      have hk : (match cuts.lookup e'.1 with
        | some m => zk_K mid e'.1 (zk_fg m ls) st μ Q
        | none => zk_wq mid cuts Q n (e' :: cs') ls st μ) := hk
      have hch : zk_chk mid (e' :: cs') = true := by
        rw [← hd]
        exact zk_chk_drop k cs hc1.2
      cases hcut : cuts.lookup e'.1 with
      | some m => rw [hcut] at hk; exact zk_forget _ hk
      | none => rw [hcut] at hk; exact zk_soundq hm1 hm2 cuts n e' cs' ls st μ hch hk
/-- from the n-th instruction on -/
theorem zk_run {mid pc : Nat} {cl : List zk_E} (hck : (zk_chk mid cl && (Nat.beq 80 (zk_N1 mid + zk_mc mid) && Nat.beq (zk_SZ 80) (zk_SZ (zk_N1 mid) + zk_ms mid))) = true) (cuts : List (Nat × List Bool)) (n fuel : Nat) (hpc : ((cl.drop n).map (fun e => e.1)).head? = some pc) {ls st : List zk_V} {μ : zk_M} {Q : Option zk_V → zk_M → Prop} (h : zk_wq mid cuts Q fuel (cl.drop n) ls st μ) : zk_K mid pc ls st μ Q := by
  simp only [Bool.and_eq_true] at hck
  obtain ⟨h1, h2, h3⟩ := hck
  have hd := zk_chk_drop n cl h1
  cases hcl : cl.drop n with
  | nil => rw [hcl] at hpc; cases hpc
  | cons e cs =>
    rw [hcl] at hpc h hd
    have : e.1 = pc := Option.some.inj hpc
    rw [← this]
    exact zk_soundq (Nat.eq_of_beq_eq_true h2) (Nat.eq_of_beq_eq_true h3) cuts fuel e cs ls st μ hd h
/-- a contract out of the walk -/
theorem zk_ct {mid : Nat} {as : List zk_V} {μ : zk_M} {Q : Option zk_V → zk_M → Prop} (hp : (plainName (zk_yn mid).cls && (Nat.ble (zk_ent as).length (zk_mL mid) && (!Nat.beq (zk_kd mid) 2 && Nat.beq (zk_N1 mid) 80))) = true) (k : zk_K mid 0 (zk_loc as (zk_mL mid)) [] μ Q) : zk_C mid as μ Q := by
  simp only [Bool.and_eq_true] at hp
  obtain ⟨h1, h2, h3, h4⟩ := hp
  refine zk_enter h1 (Nat.le_of_ble_eq_true h2) (fun q => ?_) ?_
  · rw [q] at h3; cases h3
  · have h4 := Nat.eq_of_beq_eq_true h4
    unfold zk_K at k
    rw [h4] at k
    exact k
theorem zk_C.imp {mid : Nat} {as : List zk_V} {μ : zk_M} {Q Q' : Option zk_V → zk_M → Prop} (h : zk_C mid as μ Q) (hq : ∀ v μ', Q v μ' → Q' v μ') : zk_C mid as μ Q' := by
  intro l g p e h1 h2 h3 s m args below h4 h5 h6 h7
  obtain ⟨n, o, a1, a2, a3, a4, a5⟩ := h l g p e h1 h2 h3 s m args below h4 h5 h6 h7
  refine ⟨n, o, a1, a2, a3, ?_, a5⟩
  obtain ⟨⟨v, S', b1, b2, ⟨μ', b3, b4⟩, b5⟩, b6⟩ := a4
  exact ⟨⟨v, S', b1, b2, ⟨μ', b3, hq v μ' b4⟩, b5⟩, b6⟩
def zk_ckM (mid : Nat) (cl : List zk_E) (n : Nat) : Bool := (zk_chk mid cl && (Nat.beq 80 (zk_N1 mid + zk_mc mid) && Nat.beq (zk_SZ 80) (zk_SZ (zk_N1 mid) + zk_ms mid))) && (plainName (zk_yn mid).cls && (Nat.beq n (zk_mL mid) && (!Nat.beq (zk_kd mid) 2 && Nat.beq (zk_N1 mid) 80)))
theorem zk_t {mid pc N : Nat} {cl : List zk_E} (hk : zk_ckM mid cl N = true) (cuts : List (Nat × List Bool)) (n fuel : Nat) (hpc : ((cl.drop n).map (fun e => e.1)).head? = some pc) {ls st : List zk_V} {μ : zk_M} {Q : Option zk_V → zk_M → Prop} (h : zk_wq mid cuts Q fuel (cl.drop n) ls st μ) : zk_K mid pc ls st μ Q := zk_run ((Bool.and_eq_true _ _).mp hk).1 cuts n fuel hpc h
theorem zk_c {mid N : Nat} {cl : List zk_E} (hk : zk_ckM mid cl N = true) {as : List zk_V} {μ : zk_M} {Q : Option zk_V → zk_M → Prop} (hl : Nat.ble (zk_ent as).length N = true) (k : zk_K mid 0 (zk_loc as N) [] μ Q) : zk_C mid as μ Q := by
  have h2 := ((Bool.and_eq_true _ _).mp hk).2
  simp only [Bool.and_eq_true] at h2
  obtain ⟨g1, g2, g3, g4⟩ := h2
  have g2 := Nat.eq_of_beq_eq_true g2
  subst g2
  exact zk_ct (by simp only [Bool.and_eq_true]; exact ⟨g1, hl, g3, g4⟩) k
theorem zk_iV {mid : Nat} {as : List zk_V} {μ : zk_M} {A B : zk_M → Prop} (h : zk_C mid as μ (zk_RV A)) (hq : ∀ μ', A μ' → B μ') : zk_C mid as μ (zk_RV B) := h.imp fun v μ' q => match v, q with
  | none, q => hq μ' q
theorem zk_iI {mid : Nat} {as : List zk_V} {μ : zk_M} {A B : Int → zk_M → Prop} (h : zk_C mid as μ (zk_RI A)) (hq : ∀ r μ', A r μ' → B r μ') : zk_C mid as μ (zk_RI B) := h.imp fun v μ' q => match v, q with
  | some (.inl r), q => hq r μ' q
theorem zk_iL {mid : Nat} {as : List zk_V} {μ : zk_M} {A B : Int → zk_M → Prop} (h : zk_C mid as μ (zk_RL A)) (hq : ∀ r μ', A r μ' → B r μ') : zk_C mid as μ (zk_RL B) := h.imp fun v μ' q => match v, q with
  | some (.inr (.inl r)), q => hq r μ' q
theorem zk_iR {mid : Nat} {as : List zk_V} {μ : zk_M} {A B : Nat → zk_M → Prop} (h : zk_C mid as μ (zk_RR A)) (hq : ∀ r μ', A r μ' → B r μ') : zk_C mid as μ (zk_RR B) := h.imp fun v μ' q => match v, q with
  | some (.inr (.inr (.inl r))), q => hq r μ' q
end
section
def zc_Sto_count : List zk_E := [(0, .aload_n 0, 0, 0, 0, 0, 0),
  (1, .getfield 11, 0, 9, 0, 0, 3),
  (4, .bipush 30, 0, 0, 0, 0, 0),
  (6, .iaload, 0, 0, 0, 0, 0),
  (7, .ireturn, 0, 0, 0, 0, 0)]
theorem zk_Sto_count : zk_ckM 89 zc_Sto_count 1 = true := by decide +kernel
theorem r_Sto_count_0 {μ : zk_M} {Q : Int → zk_M → Prop} (h : ((0 : Int) ≤ 30 ∧ (30 : Int) < 32) ∧ (Q (μ 4 30) μ)) : zk_K 89 0 [.inr (.inr (.inl 3))] [] μ (zk_RI Q) := zk_t zk_Sto_count [] 0 7 rfl h
theorem t_Sto_count_0 {μ : zk_M} {Q : Int → zk_M → Prop} (h : Q (μ 4 30) μ) : zk_K 89 0 [.inr (.inr (.inl 3))] [] μ (zk_RI Q) := r_Sto_count_0 ⟨by decide, h⟩
theorem c_Sto_count {μ : zk_M} {Q : Int → zk_M → Prop} (h : Q (μ 4 30) μ) : zk_C 89 [.inr (.inr (.inl 3))] μ (zk_RI Q) := zk_c zk_Sto_count rfl (t_Sto_count_0 h)
def zc_Sto_day : List zk_E := [(0, .aload_n 0, 0, 0, 0, 0, 0),
  (1, .getfield 11, 0, 9, 0, 0, 3),
  (4, .bipush 31, 0, 0, 0, 0, 0),
  (6, .iaload, 0, 0, 0, 0, 0),
  (7, .ireturn, 0, 0, 0, 0, 0)]
theorem zk_Sto_day : zk_ckM 90 zc_Sto_day 1 = true := by decide +kernel
theorem r_Sto_day_0 {μ : zk_M} {Q : Int → zk_M → Prop} (h : ((0 : Int) ≤ 31 ∧ (31 : Int) < 32) ∧ (Q (μ 4 31) μ)) : zk_K 90 0 [.inr (.inr (.inl 3))] [] μ (zk_RI Q) := zk_t zk_Sto_day [] 0 7 rfl h
theorem t_Sto_day_0 {μ : zk_M} {Q : Int → zk_M → Prop} (h : Q (μ 4 31) μ) : zk_K 90 0 [.inr (.inr (.inl 3))] [] μ (zk_RI Q) := r_Sto_day_0 ⟨by decide, h⟩
theorem c_Sto_day {μ : zk_M} {Q : Int → zk_M → Prop} (h : Q (μ 4 31) μ) : zk_C 90 [.inr (.inr (.inl 3))] μ (zk_RI Q) := zk_c zk_Sto_day rfl (t_Sto_day_0 h)
def zc_Sto_passDay : List zk_E := [(0, .aload_n 0, 0, 0, 0, 0, 0),
  (1, .getfield 11, 0, 9, 0, 0, 3),
  (4, .bipush 31, 0, 0, 0, 0, 0),
  (6, .dup2, 0, 0, 0, 0, 0),
  (7, .iaload, 0, 0, 0, 0, 0),
  (8, .iconst 1, 0, 0, 0, 0, 0),
  (9, .iadd, 0, 0, 0, 0, 0),
  (10, .iastore, 0, 0, 0, 0, 0),
  (11, .return_, 0, 0, 0, 0, 0)]
theorem zk_Sto_passDay : zk_ckM 91 zc_Sto_passDay 1 = true := by decide +kernel
theorem r_Sto_passDay_0 {μ : zk_M} {Q : zk_M → Prop} (h : ((0 : Int) ≤ 31 ∧ (31 : Int) < 32) ∧ (((-2147483648 : Int) ≤ ((μ 4 31) + 1) ∧ (((μ 4 31) + 1) : Int) ≤ 2147483647) ∧ (((0 : Int) ≤ 31 ∧ (31 : Int) < 32) ∧ (Q (zk_set μ 4 31 ((μ 4 31) + 1)))))) : zk_K 91 0 [.inr (.inr (.inl 3))] [] μ (zk_RV Q) := zk_t zk_Sto_passDay [] 0 11 rfl h
theorem t_Sto_passDay_0 {μ : zk_M} {Q : zk_M → Prop} (h : ((-2147483648 : Int) ≤ ((μ 4 31) + 1) ∧ (((μ 4 31) + 1) : Int) ≤ 2147483647) ∧ (Q (zk_set μ 4 31 ((μ 4 31) + 1)))) : zk_K 91 0 [.inr (.inr (.inl 3))] [] μ (zk_RV Q) := r_Sto_passDay_0 ⟨by decide, ⟨(h).1, ⟨by decide, (h).2⟩⟩⟩
theorem c_Sto_passDay {μ : zk_M} {Q : zk_M → Prop} (h : ((-2147483648 : Int) ≤ ((μ 4 31) + 1) ∧ (((μ 4 31) + 1) : Int) ≤ 2147483647) ∧ (Q (zk_set μ 4 31 ((μ 4 31) + 1)))) : zk_C 91 [.inr (.inr (.inl 3))] μ (zk_RV Q) := zk_c zk_Sto_passDay rfl (t_Sto_passDay_0 h)
def zc_Sto_has : List zk_E := [(0, .iload_n 1, 0, 0, 0, 0, 0),
  (1, .ifCond .lt 24, 0, 12, 0, 0, 0),
  (4, .iload_n 1, 0, 0, 0, 0, 0),
  (5, .bipush 30, 0, 0, 0, 0, 0),
  (7, .if_icmp .ge 18, 0, 9, 0, 0, 0),
  (10, .iload_n 1, 0, 0, 0, 0, 0),
  (11, .aload_n 0, 0, 0, 0, 0, 0),
  (12, .getfield 11, 0, 9, 0, 0, 3),
  (15, .bipush 30, 0, 0, 0, 0, 0),
  (17, .iaload, 0, 0, 0, 0, 0),
  (18, .if_icmp .ge 7, 0, 3, 0, 0, 0),
  (21, .iconst 1, 0, 0, 0, 0, 0),
  (22, .goto 4, 0, 2, 0, 0, 0),
  (25, .iconst 0, 0, 0, 0, 0, 0),
  (26, .ireturn, 0, 0, 0, 0, 1)]
theorem zk_Sto_has : zk_ckM 92 zc_Sto_has 2 = true := by decide +kernel
theorem r_Sto_has_0 {x1 : Int} {μ : zk_M} {Q : Int → zk_M → Prop} (h : (x1 < 0 → (Q 0 μ)) ∧ (¬ (x1 < 0) → ((30 ≤ x1 → (Q 0 μ)) ∧ (¬ (30 ≤ x1) → (((0 : Int) ≤ 30 ∧ (30 : Int) < 32) ∧ (((μ 4 30) ≤ x1 → (Q 0 μ)) ∧ (¬ ((μ 4 30) ≤ x1) → (Q 1 μ)))))))) : zk_K 92 0 [.inr (.inr (.inl 3)), .inl x1] [] μ (zk_RI Q) := zk_t zk_Sto_has [] 0 17 rfl h
theorem t_Sto_has_0 {x1 : Int} {μ : zk_M} {Q : Int → zk_M → Prop} (h : (x1 < 0 → (Q 0 μ)) ∧ (¬ (x1 < 0) → ((30 ≤ x1 → (Q 0 μ)) ∧ (¬ (30 ≤ x1) → (((μ 4 30) ≤ x1 → (Q 0 μ)) ∧ (¬ ((μ 4 30) ≤ x1) → (Q 1 μ))))))) : zk_K 92 0 [.inr (.inr (.inl 3)), .inl x1] [] μ (zk_RI Q) := r_Sto_has_0 ⟨fun q0 => (h).1 q0, fun q0 => ⟨fun q1 => ((h).2 q0).1 q1, fun q1 => ⟨by decide, ((h).2 q0).2 q1⟩⟩⟩
theorem c_Sto_has {x1 : Int} {μ : zk_M} {Q : Int → zk_M → Prop} (h : (x1 < 0 → (Q 0 μ)) ∧ (¬ (x1 < 0) → ((30 ≤ x1 → (Q 0 μ)) ∧ (¬ (30 ≤ x1) → (((μ 4 30) ≤ x1 → (Q 0 μ)) ∧ (¬ ((μ 4 30) ≤ x1) → (Q 1 μ))))))) : zk_C 92 [.inr (.inr (.inl 3)), .inl x1] μ (zk_RI Q) := zk_c zk_Sto_has rfl (t_Sto_has_0 h)
def zc_Sto_word : List zk_E := [(0, .iload_n 1, 0, 0, 0, 0, 0),
  (1, .ifCond .lt 18, 0, 9, 0, 0, 0),
  (4, .iload_n 1, 0, 0, 0, 0, 0),
  (5, .bipush 30, 0, 0, 0, 0, 0),
  (7, .if_icmp .ge 12, 0, 6, 0, 0, 0),
  (10, .aload_n 0, 0, 0, 0, 0, 0),
  (11, .getfield 11, 0, 9, 0, 0, 3),
  (14, .iload_n 1, 0, 0, 0, 0, 0),
  (15, .iaload, 0, 0, 0, 0, 0),
  (16, .goto 4, 0, 2, 0, 0, 0),
  (19, .iconst 0, 0, 0, 0, 0, 0),
  (20, .ireturn, 0, 0, 0, 0, 0)]
theorem zk_Sto_word : zk_ckM 93 zc_Sto_word 2 = true := by decide +kernel
theorem t_Sto_word_0 {x1 : Int} {μ : zk_M} {Q : Int → zk_M → Prop} (h : (x1 < 0 → (Q 0 μ)) ∧ (¬ (x1 < 0) → ((30 ≤ x1 → (Q 0 μ)) ∧ (¬ (30 ≤ x1) → (((0 : Int) ≤ x1 ∧ (x1 : Int) < 32) ∧ (Q (μ 4 x1) μ)))))) : zk_K 93 0 [.inr (.inr (.inl 3)), .inl x1] [] μ (zk_RI Q) := zk_t zk_Sto_word [] 0 14 rfl h
theorem c_Sto_word {x1 : Int} {μ : zk_M} {Q : Int → zk_M → Prop} (h : (x1 < 0 → (Q 0 μ)) ∧ (¬ (x1 < 0) → ((30 ≤ x1 → (Q 0 μ)) ∧ (¬ (30 ≤ x1) → (((0 : Int) ≤ x1 ∧ (x1 : Int) < 32) ∧ (Q (μ 4 x1) μ)))))) : zk_C 93 [.inr (.inr (.inl 3)), .inl x1] μ (zk_RI Q) := zk_c zk_Sto_word rfl (t_Sto_word_0 h)
def zc_Sto_kindOf : List zk_E := [(0, .aload_n 0, 0, 0, 0, 0, 0),
  (1, .iload_n 1, 0, 0, 0, 0, 0),
  (2, .invokevirtual 21, 9, 93, 0, 2, 1),
  (5, .bipush 7, 0, 0, 0, 0, 0),
  (7, .iand, 0, 0, 0, 0, 0),
  (8, .ireturn, 0, 0, 0, 0, 0)]
theorem zk_Sto_kindOf : zk_ckM 94 zc_Sto_kindOf 2 = true := by decide +kernel
theorem t_Sto_kindOf_0 {x1 : Int} {μ : zk_M} {Q : Int → zk_M → Prop} (h : zk_C 93 [.inr (.inr (.inl 3)), .inl x1] μ (zk_RI fun r2 μ1 => Q (zk_and r2 7) μ1)) : zk_K 94 0 [.inr (.inr (.inl 3)), .inl x1] [] μ (zk_RI Q) := zk_t zk_Sto_kindOf [] 0 8 rfl h
theorem c_Sto_kindOf {x1 : Int} {μ : zk_M} {Q : Int → zk_M → Prop} (h : zk_C 93 [.inr (.inr (.inl 3)), .inl x1] μ (zk_RI fun r2 μ1 => Q (zk_and r2 7) μ1)) : zk_C 94 [.inr (.inr (.inl 3)), .inl x1] μ (zk_RI Q) := zk_c zk_Sto_kindOf rfl (t_Sto_kindOf_0 h)
def zc_Sto_sewnOn : List zk_E := [(0, .aload_n 0, 0, 0, 0, 0, 0),
  (1, .iload_n 1, 0, 0, 0, 0, 0),
  (2, .invokevirtual 21, 9, 93, 0, 2, 1),
  (5, .iconst 3, 0, 0, 0, 0, 0),
  (6, .ishr, 0, 0, 0, 0, 0),
  (7, .sipush 1023, 0, 0, 0, 0, 0),
  (10, .iand, 0, 0, 0, 0, 0),
  (11, .ireturn, 0, 0, 0, 0, 0)]
theorem zk_Sto_sewnOn : zk_ckM 95 zc_Sto_sewnOn 2 = true := by decide +kernel
theorem t_Sto_sewnOn_0 {x1 : Int} {μ : zk_M} {Q : Int → zk_M → Prop} (h : zk_C 93 [.inr (.inr (.inl 3)), .inl x1] μ (zk_RI fun r2 μ1 => Q (zk_and (zk_shr r2 3) 1023) μ1)) : zk_K 95 0 [.inr (.inr (.inl 3)), .inl x1] [] μ (zk_RI Q) := zk_t zk_Sto_sewnOn [] 0 10 rfl h
theorem c_Sto_sewnOn {x1 : Int} {μ : zk_M} {Q : Int → zk_M → Prop} (h : zk_C 93 [.inr (.inr (.inl 3)), .inl x1] μ (zk_RI fun r2 μ1 => Q (zk_and (zk_shr r2 3) 1023) μ1)) : zk_C 95 [.inr (.inr (.inl 3)), .inl x1] μ (zk_RI Q) := zk_c zk_Sto_sewnOn rfl (t_Sto_sewnOn_0 h)
def zc_Sto_placeOf : List zk_E := [(0, .aload_n 0, 0, 0, 0, 0, 0),
  (1, .iload_n 1, 0, 0, 0, 0, 0),
  (2, .invokevirtual 21, 9, 93, 0, 2, 1),
  (5, .bipush 13, 0, 0, 0, 0, 0),
  (7, .ishr, 0, 0, 0, 0, 0),
  (8, .bipush 7, 0, 0, 0, 0, 0),
  (10, .iand, 0, 0, 0, 0, 0),
  (11, .ireturn, 0, 0, 0, 0, 0)]
theorem zk_Sto_placeOf : zk_ckM 96 zc_Sto_placeOf 2 = true := by decide +kernel
theorem t_Sto_placeOf_0 {x1 : Int} {μ : zk_M} {Q : Int → zk_M → Prop} (h : zk_C 93 [.inr (.inr (.inl 3)), .inl x1] μ (zk_RI fun r2 μ1 => Q (zk_and (zk_shr r2 13) 7) μ1)) : zk_K 96 0 [.inr (.inr (.inl 3)), .inl x1] [] μ (zk_RI Q) := zk_t zk_Sto_placeOf [] 0 10 rfl h
theorem c_Sto_placeOf {x1 : Int} {μ : zk_M} {Q : Int → zk_M → Prop} (h : zk_C 93 [.inr (.inr (.inl 3)), .inl x1] μ (zk_RI fun r2 μ1 => Q (zk_and (zk_shr r2 13) 7) μ1)) : zk_C 96 [.inr (.inr (.inl 3)), .inl x1] μ (zk_RI Q) := zk_c zk_Sto_placeOf rfl (t_Sto_placeOf_0 h)
def zc_Sto_ownerOf : List zk_E := [(0, .aload_n 0, 0, 0, 0, 0, 0),
  (1, .iload_n 1, 0, 0, 0, 0, 0),
  (2, .invokevirtual 21, 9, 93, 0, 2, 1),
  (5, .bipush 16, 0, 0, 0, 0, 0),
  (7, .ishr, 0, 0, 0, 0, 0),
  (8, .bipush 7, 0, 0, 0, 0, 0),
  (10, .iand, 0, 0, 0, 0, 0),
  (11, .ireturn, 0, 0, 0, 0, 0)]
theorem zk_Sto_ownerOf : zk_ckM 97 zc_Sto_ownerOf 2 = true := by decide +kernel
theorem t_Sto_ownerOf_0 {x1 : Int} {μ : zk_M} {Q : Int → zk_M → Prop} (h : zk_C 93 [.inr (.inr (.inl 3)), .inl x1] μ (zk_RI fun r2 μ1 => Q (zk_and (zk_shr r2 16) 7) μ1)) : zk_K 97 0 [.inr (.inr (.inl 3)), .inl x1] [] μ (zk_RI Q) := zk_t zk_Sto_ownerOf [] 0 10 rfl h
theorem c_Sto_ownerOf {x1 : Int} {μ : zk_M} {Q : Int → zk_M → Prop} (h : zk_C 93 [.inr (.inr (.inl 3)), .inl x1] μ (zk_RI fun r2 μ1 => Q (zk_and (zk_shr r2 16) 7) μ1)) : zk_C 97 [.inr (.inr (.inl 3)), .inl x1] μ (zk_RI Q) := zk_c zk_Sto_ownerOf rfl (t_Sto_ownerOf_0 h)
def zc_Sto_inside : List zk_E := [(0, .iconst 0, 0, 0, 0, 0, 0),
  (1, .istore_n 2, 0, 0, 0, 0, 0),
  (2, .iconst 0, 0, 0, 0, 0, 0),
  (3, .istore_n 3, 0, 0, 0, 0, 0),
  (4, .iload_n 3, 0, 0, 0, 0, 0),
  (5, .aload_n 0, 0, 0, 0, 0, 0),
  (6, .invokevirtual 25, 9, 89, 0, 1, 1),
  (9, .if_icmp .ge 24, 0, 14, 0, 0, 0),
  (12, .aload_n 0, 0, 0, 0, 0, 0),
  (13, .iload_n 3, 0, 0, 0, 0, 0),
  (14, .invokevirtual 29, 9, 96, 0, 2, 1),
  (17, .iload_n 1, 0, 0, 0, 0, 0),
  (18, .if_icmp .ne 9, 0, 7, 0, 0, 0),
  (21, .iload_n 2, 0, 0, 0, 0, 0),
  (22, .iconst 1, 0, 0, 0, 0, 0),
  (23, .iload_n 3, 0, 0, 0, 0, 0),
  (24, .ishl, 0, 0, 0, 0, 0),
  (25, .ior, 0, 0, 0, 0, 0),
  (26, .istore_n 2, 0, 0, 0, 0, 0),
  (27, .iinc 3 1, 0, 0, 0, 0, 0),
  (30, .goto (-26), 0, 0, 0, 4, 0),
  (33, .iload_n 2, 0, 0, 0, 0, 0),
  (34, .ireturn, 0, 0, 0, 0, 0)]
theorem zk_Sto_inside : zk_ckM 98 zc_Sto_inside 4 = true := by decide +kernel
theorem t_Sto_inside_0 {x1 : Int} {μ : zk_M} {Q : Int → zk_M → Prop} (h : zk_K 98 4 [.inr (.inr (.inl 3)), .inl x1, .inl 0, .inl 0] [] μ (zk_RI Q)) : zk_K 98 0 [.inr (.inr (.inl 3)), .inl x1, .inr (.inr (.inr 0)), .inr (.inr (.inr 0))] [] μ (zk_RI Q) := zk_t zk_Sto_inside [(4, [true, true, true, true])] 0 25 rfl h
theorem c_Sto_inside {x1 : Int} {μ : zk_M} {Q : Int → zk_M → Prop} (h : zk_K 98 4 [.inr (.inr (.inl 3)), .inl x1, .inl 0, .inl 0] [] μ (zk_RI Q)) : zk_C 98 [.inr (.inr (.inl 3)), .inl x1] μ (zk_RI Q) := zk_c zk_Sto_inside rfl (t_Sto_inside_0 h)
theorem t_Sto_inside_4 {x1 x2 x3 : Int} {μ : zk_M} {Q : Int → zk_M → Prop} (h : zk_C 89 [.inr (.inr (.inl 3))] μ (zk_RI fun r2 μ1 => (r2 ≤ x3 → (Q x2 μ1)) ∧ (¬ (r2 ≤ x3) → (zk_C 96 [.inr (.inr (.inl 3)), .inl x3] μ1 (zk_RI fun r4 μ3 => (¬ r4 = x1 → (((-2147483648 : Int) ≤ (x3 + 1) ∧ ((x3 + 1) : Int) ≤ 2147483647) ∧ (zk_K 98 4 [.inr (.inr (.inl 3)), .inl x1, .inl x2, .inl (x3 + 1)] [] μ3 (zk_RI Q)))) ∧ (r4 = x1 → (((-2147483648 : Int) ≤ (x3 + 1) ∧ ((x3 + 1) : Int) ≤ 2147483647) ∧ (zk_K 98 4 [.inr (.inr (.inl 3)), .inl x1, .inl (zk_or x2 (zk_shl 1 x3)), .inl (x3 + 1)] [] μ3 (zk_RI Q))))))))) : zk_K 98 4 [.inr (.inr (.inl 3)), .inl x1, .inl x2, .inl x3] [] μ (zk_RI Q) := zk_t zk_Sto_inside [(4, [true, true, true, true])] 4 25 rfl h
def zc_Sto_sew : List zk_E := [(0, .aload_n 0, 0, 0, 0, 0, 0),
  (1, .invokevirtual 25, 9, 89, 0, 1, 1),
  (4, .istore_n 3, 0, 0, 0, 0, 0),
  (5, .iload_n 3, 0, 0, 0, 0, 0),
  (6, .ifCond .lt 9, 0, 4, 0, 0, 0),
  (9, .iload_n 3, 0, 0, 0, 0, 0),
  (10, .bipush 30, 0, 0, 0, 0, 0),
  (12, .if_icmp .lt 5, 0, 3, 0, 0, 0),
  (15, .iconst (-1), 0, 0, 0, 0, 0),
  (16, .ireturn, 0, 0, 0, 0, 0),
  (17, .aload_n 0, 0, 0, 0, 0, 0),
  (18, .getfield 11, 0, 9, 0, 0, 3),
  (21, .iload_n 3, 0, 0, 0, 0, 0),
  (22, .iload_n 1, 0, 0, 0, 0, 0),
  (23, .aload_n 0, 0, 0, 0, 0, 0),
  (24, .invokevirtual 32, 9, 90, 0, 1, 1),
  (27, .iconst 3, 0, 0, 0, 0, 0),
  (28, .ishl, 0, 0, 0, 0, 0),
  (29, .ior, 0, 0, 0, 0, 0),
  (30, .iload_n 2, 0, 0, 0, 0, 0),
  (31, .bipush 13, 0, 0, 0, 0, 0),
  (33, .ishl, 0, 0, 0, 0, 0),
  (34, .ior, 0, 0, 0, 0, 0),
  (35, .iload_n 2, 0, 0, 0, 0, 0),
  (36, .bipush 16, 0, 0, 0, 0, 0),
  (38, .ishl, 0, 0, 0, 0, 0),
  (39, .ior, 0, 0, 0, 0, 0),
  (40, .iastore, 0, 0, 0, 0, 0),
  (41, .aload_n 0, 0, 0, 0, 0, 0),
  (42, .getfield 11, 0, 9, 0, 0, 3),
  (45, .bipush 30, 0, 0, 0, 0, 0),
  (47, .dup2, 0, 0, 0, 0, 0),
  (48, .iaload, 0, 0, 0, 0, 0),
  (49, .iconst 1, 0, 0, 0, 0, 0),
  (50, .iadd, 0, 0, 0, 0, 0),
  (51, .iastore, 0, 0, 0, 0, 0),
  (52, .iload_n 3, 0, 0, 0, 0, 0),
  (53, .ireturn, 0, 0, 0, 0, 0)]
theorem zk_Sto_sew : zk_ckM 99 zc_Sto_sew 4 = true := by decide +kernel
theorem r_Sto_sew_0 {x1 x2 : Int} {μ : zk_M} {Q : Int → zk_M → Prop} (h : zk_C 89 [.inr (.inr (.inl 3))] μ (zk_RI fun r2 μ1 => (r2 < 0 → (Q (-1) μ1)) ∧ (¬ (r2 < 0) → ((r2 < 30 → (zk_C 90 [.inr (.inr (.inl 3))] μ1 (zk_RI fun r4 μ3 => ((0 : Int) ≤ r2 ∧ (r2 : Int) < 32) ∧ (((0 : Int) ≤ 30 ∧ (30 : Int) < 32) ∧ (((-2147483648 : Int) ≤ (((zk_set μ3 4 r2 (zk_or (zk_or (zk_or x1 (zk_shl r4 3)) (zk_shl x2 13)) (zk_shl x2 16))) 4 30) + 1) ∧ ((((zk_set μ3 4 r2 (zk_or (zk_or (zk_or x1 (zk_shl r4 3)) (zk_shl x2 13)) (zk_shl x2 16))) 4 30) + 1) : Int) ≤ 2147483647) ∧ (((0 : Int) ≤ 30 ∧ (30 : Int) < 32) ∧ (Q r2 (zk_set (zk_set μ3 4 r2 (zk_or (zk_or (zk_or x1 (zk_shl r4 3)) (zk_shl x2 13)) (zk_shl x2 16))) 4 30 (((zk_set μ3 4 r2 (zk_or (zk_or (zk_or x1 (zk_shl r4 3)) (zk_shl x2 13)) (zk_shl x2 16))) 4 30) + 1))))))))) ∧ (¬ (r2 < 30) → (Q (-1) μ1)))))) : zk_K 99 0 [.inr (.inr (.inl 3)), .inl x1, .inl x2, .inr (.inr (.inr 0))] [] μ (zk_RI Q) := zk_t zk_Sto_sew [] 0 40 rfl h
theorem t_Sto_sew_0 {x1 x2 : Int} {μ : zk_M} {Q : Int → zk_M → Prop} (h : zk_C 89 [.inr (.inr (.inl 3))] μ (zk_RI fun r2 μ1 => (r2 < 0 → (Q (-1) μ1)) ∧ (¬ (r2 < 0) → ((r2 < 30 → (zk_C 90 [.inr (.inr (.inl 3))] μ1 (zk_RI fun r4 μ3 => ((0 : Int) ≤ r2 ∧ (r2 : Int) < 32) ∧ (((-2147483648 : Int) ≤ (((zk_set μ3 4 r2 (zk_or (zk_or (zk_or x1 (zk_shl r4 3)) (zk_shl x2 13)) (zk_shl x2 16))) 4 30) + 1) ∧ ((((zk_set μ3 4 r2 (zk_or (zk_or (zk_or x1 (zk_shl r4 3)) (zk_shl x2 13)) (zk_shl x2 16))) 4 30) + 1) : Int) ≤ 2147483647) ∧ (Q r2 (zk_set (zk_set μ3 4 r2 (zk_or (zk_or (zk_or x1 (zk_shl r4 3)) (zk_shl x2 13)) (zk_shl x2 16))) 4 30 (((zk_set μ3 4 r2 (zk_or (zk_or (zk_or x1 (zk_shl r4 3)) (zk_shl x2 13)) (zk_shl x2 16))) 4 30) + 1))))))) ∧ (¬ (r2 < 30) → (Q (-1) μ1)))))) : zk_K 99 0 [.inr (.inr (.inl 3)), .inl x1, .inl x2, .inr (.inr (.inr 0))] [] μ (zk_RI Q) := r_Sto_sew_0 (zk_iI (h) (fun _ _ a0 => ⟨fun q1 => (a0).1 q1, fun q1 => ⟨fun q2 => (zk_iI (((a0).2 q1).1 q2) (fun _ _ a3 => ⟨(a3).1, ⟨by decide, ⟨((a3).2).1, ⟨by decide, ((a3).2).2⟩⟩⟩⟩)), fun q2 => ((a0).2 q1).2 q2⟩⟩))
theorem c_Sto_sew {x1 x2 : Int} {μ : zk_M} {Q : Int → zk_M → Prop} (h : zk_C 89 [.inr (.inr (.inl 3))] μ (zk_RI fun r2 μ1 => (r2 < 0 → (Q (-1) μ1)) ∧ (¬ (r2 < 0) → ((r2 < 30 → (zk_C 90 [.inr (.inr (.inl 3))] μ1 (zk_RI fun r4 μ3 => ((0 : Int) ≤ r2 ∧ (r2 : Int) < 32) ∧ (((-2147483648 : Int) ≤ (((zk_set μ3 4 r2 (zk_or (zk_or (zk_or x1 (zk_shl r4 3)) (zk_shl x2 13)) (zk_shl x2 16))) 4 30) + 1) ∧ ((((zk_set μ3 4 r2 (zk_or (zk_or (zk_or x1 (zk_shl r4 3)) (zk_shl x2 13)) (zk_shl x2 16))) 4 30) + 1) : Int) ≤ 2147483647) ∧ (Q r2 (zk_set (zk_set μ3 4 r2 (zk_or (zk_or (zk_or x1 (zk_shl r4 3)) (zk_shl x2 13)) (zk_shl x2 16))) 4 30 (((zk_set μ3 4 r2 (zk_or (zk_or (zk_or x1 (zk_shl r4 3)) (zk_shl x2 13)) (zk_shl x2 16))) 4 30) + 1))))))) ∧ (¬ (r2 < 30) → (Q (-1) μ1)))))) : zk_C 99 [.inr (.inr (.inl 3)), .inl x1, .inl x2] μ (zk_RI Q) := zk_c zk_Sto_sew rfl (t_Sto_sew_0 h)
def zc_Sto_drop : List zk_E := [(0, .aload_n 0, 0, 0, 0, 0, 0),
  (1, .iload_n 1, 0, 0, 0, 0, 0),
  (2, .bipush 6, 0, 0, 0, 0, 0),
  (4, .aload_n 0, 0, 0, 0, 0, 0),
  (5, .iload_n 1, 0, 0, 0, 0, 0),
  (6, .invokevirtual 35, 9, 97, 0, 2, 1),
  (9, .invokevirtual 38, 9, 102, 0, 4, 0),
  (12, .return_, 0, 0, 0, 0, 0)]
theorem zk_Sto_drop : zk_ckM 100 zc_Sto_drop 2 = true := by decide +kernel
theorem t_Sto_drop_0 {x1 : Int} {μ : zk_M} {Q : zk_M → Prop} (h : zk_C 97 [.inr (.inr (.inl 3)), .inl x1] μ (zk_RI fun r2 μ1 => zk_C 102 [.inr (.inr (.inl 3)), .inl x1, .inl 6, .inl r2] μ1 (zk_RV fun μ3 => Q μ3))) : zk_K 100 0 [.inr (.inr (.inl 3)), .inl x1] [] μ (zk_RV Q) := zk_t zk_Sto_drop [] 0 10 rfl h
theorem c_Sto_drop {x1 : Int} {μ : zk_M} {Q : zk_M → Prop} (h : zk_C 97 [.inr (.inr (.inl 3)), .inl x1] μ (zk_RI fun r2 μ1 => zk_C 102 [.inr (.inr (.inl 3)), .inl x1, .inl 6, .inl r2] μ1 (zk_RV fun μ3 => Q μ3))) : zk_C 100 [.inr (.inr (.inl 3)), .inl x1] μ (zk_RV Q) := zk_c zk_Sto_drop rfl (t_Sto_drop_0 h)
def zc_Sto_give : List zk_E := [(0, .aload_n 0, 0, 0, 0, 0, 0),
  (1, .iload_n 1, 0, 0, 0, 0, 0),
  (2, .iload_n 2, 0, 0, 0, 0, 0),
  (3, .iload_n 2, 0, 0, 0, 0, 0),
  (4, .invokevirtual 38, 9, 102, 0, 4, 0),
  (7, .return_, 0, 0, 0, 0, 0)]
theorem zk_Sto_give : zk_ckM 101 zc_Sto_give 3 = true := by decide +kernel
theorem t_Sto_give_0 {x1 x2 : Int} {μ : zk_M} {Q : zk_M → Prop} (h : zk_C 102 [.inr (.inr (.inl 3)), .inl x1, .inl x2, .inl x2] μ (zk_RV fun μ1 => Q μ1)) : zk_K 101 0 [.inr (.inr (.inl 3)), .inl x1, .inl x2] [] μ (zk_RV Q) := zk_t zk_Sto_give [] 0 8 rfl h
theorem c_Sto_give {x1 x2 : Int} {μ : zk_M} {Q : zk_M → Prop} (h : zk_C 102 [.inr (.inr (.inl 3)), .inl x1, .inl x2, .inl x2] μ (zk_RV fun μ1 => Q μ1)) : zk_C 101 [.inr (.inr (.inl 3)), .inl x1, .inl x2] μ (zk_RV Q) := zk_c zk_Sto_give rfl (t_Sto_give_0 h)
def zc_Sto_move : List zk_E := [(0, .aload_n 0, 0, 0, 0, 0, 0),
  (1, .iload_n 1, 0, 0, 0, 0, 0),
  (2, .invokevirtual 42, 9, 92, 0, 2, 1),
  (5, .ifCond .eq 32, 0, 22, 0, 0, 0),
  (8, .aload_n 0, 0, 0, 0, 0, 0),
  (9, .getfield 11, 0, 9, 0, 0, 3),
  (12, .iload_n 1, 0, 0, 0, 0, 0),
  (13, .aload_n 0, 0, 0, 0, 0, 0),
  (14, .iload_n 1, 0, 0, 0, 0, 0),
  (15, .invokevirtual 46, 9, 94, 0, 2, 1),
  (18, .aload_n 0, 0, 0, 0, 0, 0),
  (19, .iload_n 1, 0, 0, 0, 0, 0),
  (20, .invokevirtual 49, 9, 95, 0, 2, 1),
  (23, .iconst 3, 0, 0, 0, 0, 0),
  (24, .ishl, 0, 0, 0, 0, 0),
  (25, .ior, 0, 0, 0, 0, 0),
  (26, .iload_n 2, 0, 0, 0, 0, 0),
  (27, .bipush 13, 0, 0, 0, 0, 0),
  (29, .ishl, 0, 0, 0, 0, 0),
  (30, .ior, 0, 0, 0, 0, 0),
  (31, .iload_n 3, 0, 0, 0, 0, 0),
  (32, .bipush 16, 0, 0, 0, 0, 0),
  (34, .ishl, 0, 0, 0, 0, 0),
  (35, .ior, 0, 0, 0, 0, 0),
  (36, .iastore, 0, 0, 0, 0, 0),
  (37, .return_, 0, 0, 0, 0, 0)]
theorem zk_Sto_move : zk_ckM 102 zc_Sto_move 4 = true := by decide +kernel
theorem t_Sto_move_0 {x1 x2 x3 : Int} {μ : zk_M} {Q : zk_M → Prop} (h : zk_C 92 [.inr (.inr (.inl 3)), .inl x1] μ (zk_RI fun r2 μ1 => (r2 = 0 → (Q μ1)) ∧ (¬ r2 = 0 → (zk_C 94 [.inr (.inr (.inl 3)), .inl x1] μ1 (zk_RI fun r4 μ3 => zk_C 95 [.inr (.inr (.inl 3)), .inl x1] μ3 (zk_RI fun r6 μ5 => ((0 : Int) ≤ x1 ∧ (x1 : Int) < 32) ∧ (Q (zk_set μ5 4 x1 (zk_or (zk_or (zk_or r4 (zk_shl r6 3)) (zk_shl x2 13)) (zk_shl x3 16)))))))))) : zk_K 102 0 [.inr (.inr (.inl 3)), .inl x1, .inl x2, .inl x3] [] μ (zk_RV Q) := zk_t zk_Sto_move [] 0 28 rfl h
theorem c_Sto_move {x1 x2 x3 : Int} {μ : zk_M} {Q : zk_M → Prop} (h : zk_C 92 [.inr (.inr (.inl 3)), .inl x1] μ (zk_RI fun r2 μ1 => (r2 = 0 → (Q μ1)) ∧ (¬ r2 = 0 → (zk_C 94 [.inr (.inr (.inl 3)), .inl x1] μ1 (zk_RI fun r4 μ3 => zk_C 95 [.inr (.inr (.inl 3)), .inl x1] μ3 (zk_RI fun r6 μ5 => ((0 : Int) ≤ x1 ∧ (x1 : Int) < 32) ∧ (Q (zk_set μ5 4 x1 (zk_or (zk_or (zk_or r4 (zk_shl r6 3)) (zk_shl x2 13)) (zk_shl x3 16)))))))))) : zk_C 102 [.inr (.inr (.inl 3)), .inl x1, .inl x2, .inl x3] μ (zk_RV Q) := zk_c zk_Sto_move rfl (t_Sto_move_0 h)
end
