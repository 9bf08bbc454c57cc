section
-- ===== PART A: goes FIRST, ahead of the names: the tables' words, and 'selects' of the private methods out of them =====
/-- a private method of a class that the tables say can be made, by its rows of tables_1 -/
def lw_okq (q : MethodName × Nat) : Prop := (q.1.cls ≠ "java/lang/invoke/MethodHandle" ∧ q.1.cls ≠ "java/lang/invoke/VarHandle") ∧ Cond.instantiable q.1.cls q.2 ∈ tables_1 ∧ Cond.privateMethod q.1 ∈ tables_1 ∧ Cond.instanceMethod q.1 ∈ tables_1
theorem lw_p0 : lw_okq (⟨"LyingBeacons$Reader", "readItem", "([BI)Z"⟩, 7) := ⟨⟨by decide +kernel, by decide +kernel⟩, List.mem_of_getElem? (i := 22) (by decide +kernel), List.mem_of_getElem? (i := 284) (by decide +kernel), List.mem_of_getElem? (i := 285) (by decide +kernel)⟩
theorem lw_p1 : lw_okq (⟨"LyingBeacons$Reader", "byteAt", "([BI)I"⟩, 7) := ⟨⟨by decide +kernel, by decide +kernel⟩, List.mem_of_getElem? (i := 22) (by decide +kernel), List.mem_of_getElem? (i := 288) (by decide +kernel), List.mem_of_getElem? (i := 289) (by decide +kernel)⟩
theorem lw_p2 : lw_okq (⟨"LyingBeacons$Reader", "readNumber", "([BI)I"⟩, 7) := ⟨⟨by decide +kernel, by decide +kernel⟩, List.mem_of_getElem? (i := 22) (by decide +kernel), List.mem_of_getElem? (i := 292) (by decide +kernel), List.mem_of_getElem? (i := 293) (by decide +kernel)⟩
theorem lw_p3 : lw_okq (⟨"LyingBeacons$Reader", "takeItem", "(LLyingBeacons$Net;)Z"⟩, 7) := ⟨⟨by decide +kernel, by decide +kernel⟩, List.mem_of_getElem? (i := 22) (by decide +kernel), List.mem_of_getElem? (i := 296) (by decide +kernel), List.mem_of_getElem? (i := 297) (by decide +kernel)⟩
theorem lw_p4 : lw_okq (⟨"LyingBeacons$Reader", "takeHill", "(LLyingBeacons$Net;)Z"⟩, 7) := ⟨⟨by decide +kernel, by decide +kernel⟩, List.mem_of_getElem? (i := 22) (by decide +kernel), List.mem_of_getElem? (i := 300) (by decide +kernel), List.mem_of_getElem? (i := 301) (by decide +kernel)⟩
theorem lw_p5 : lw_okq (⟨"LyingBeacons$Reader", "takeSight", "(LLyingBeacons$Net;)Z"⟩, 7) := ⟨⟨by decide +kernel, by decide +kernel⟩, List.mem_of_getElem? (i := 22) (by decide +kernel), List.mem_of_getElem? (i := 316) (by decide +kernel), List.mem_of_getElem? (i := 317) (by decide +kernel)⟩
theorem lw_p6 : lw_okq (⟨"LyingBeacons$Reader", "takeRule", "(LLyingBeacons$Net;)Z"⟩, 7) := ⟨⟨by decide +kernel, by decide +kernel⟩, List.mem_of_getElem? (i := 22) (by decide +kernel), List.mem_of_getElem? (i := 323) (by decide +kernel), List.mem_of_getElem? (i := 324) (by decide +kernel)⟩
theorem lw_p7 : lw_okq (⟨"LyingBeacons$Reader", "takeWood", "(LLyingBeacons$Net;)Z"⟩, 7) := ⟨⟨by decide +kernel, by decide +kernel⟩, List.mem_of_getElem? (i := 22) (by decide +kernel), List.mem_of_getElem? (i := 327) (by decide +kernel), List.mem_of_getElem? (i := 328) (by decide +kernel)⟩
theorem lw_p8 : lw_okq (⟨"LyingBeacons$Reader", "takeSleep", "(LLyingBeacons$Net;)Z"⟩, 7) := ⟨⟨by decide +kernel, by decide +kernel⟩, List.mem_of_getElem? (i := 22) (by decide +kernel), List.mem_of_getElem? (i := 331) (by decide +kernel), List.mem_of_getElem? (i := 332) (by decide +kernel)⟩
theorem lw_p9 : lw_okq (⟨"LyingBeacons$Reader", "areMinutes", "(I)Z"⟩, 7) := ⟨⟨by decide +kernel, by decide +kernel⟩, List.mem_of_getElem? (i := 22) (by decide +kernel), List.mem_of_getElem? (i := 335) (by decide +kernel), List.mem_of_getElem? (i := 336) (by decide +kernel)⟩
theorem lw_p10 : lw_okq (⟨"LyingBeacons$Reader", "takeMist", "(LLyingBeacons$Net;)Z"⟩, 7) := ⟨⟨by decide +kernel, by decide +kernel⟩, List.mem_of_getElem? (i := 22) (by decide +kernel), List.mem_of_getElem? (i := 346) (by decide +kernel), List.mem_of_getElem? (i := 347) (by decide +kernel)⟩
theorem lw_p11 : lw_okq (⟨"LyingBeacons$Reader", "takeLiar", "(LLyingBeacons$Net;)Z"⟩, 7) := ⟨⟨by decide +kernel, by decide +kernel⟩, List.mem_of_getElem? (i := 22) (by decide +kernel), List.mem_of_getElem? (i := 355) (by decide +kernel), List.mem_of_getElem? (i := 356) (by decide +kernel)⟩
theorem lw_p12 : lw_okq (⟨"LyingBeacons", "playNight", "()V"⟩, 14) := ⟨⟨by decide +kernel, by decide +kernel⟩, List.mem_of_getElem? (i := 14) (by decide +kernel), List.mem_of_getElem? (i := 383) (by decide +kernel), List.mem_of_getElem? (i := 384) (by decide +kernel)⟩
theorem lw_p13 : lw_okq (⟨"LyingBeacons$Night", "playMinute", "(LLyingBeacons$Net;I)V"⟩, 3) := ⟨⟨by decide +kernel, by decide +kernel⟩, List.mem_of_getElem? (i := 136) (by decide +kernel), List.mem_of_getElem? (i := 391) (by decide +kernel), List.mem_of_getElem? (i := 392) (by decide +kernel)⟩
theorem lw_p14 : lw_okq (⟨"LyingBeacons$Night", "isFired", "(LLyingBeacons$Net;II)Z"⟩, 3) := ⟨⟨by decide +kernel, by decide +kernel⟩, List.mem_of_getElem? (i := 136) (by decide +kernel), List.mem_of_getElem? (i := 395) (by decide +kernel), List.mem_of_getElem? (i := 396) (by decide +kernel)⟩
theorem lw_p15 : lw_okq (⟨"LyingBeacons$Night", "ruleHeld", "(LLyingBeacons$Net;II)Z"⟩, 3) := ⟨⟨by decide +kernel, by decide +kernel⟩, List.mem_of_getElem? (i := 136) (by decide +kernel), List.mem_of_getElem? (i := 407) (by decide +kernel), List.mem_of_getElem? (i := 408) (by decide +kernel)⟩
def lw_privs_1 : List (MethodName × Nat) := [(⟨"LyingBeacons$Reader", "readItem", "([BI)Z"⟩, 7), (⟨"LyingBeacons$Reader", "byteAt", "([BI)I"⟩, 7), (⟨"LyingBeacons$Reader", "readNumber", "([BI)I"⟩, 7), (⟨"LyingBeacons$Reader", "takeItem", "(LLyingBeacons$Net;)Z"⟩, 7), (⟨"LyingBeacons$Reader", "takeHill", "(LLyingBeacons$Net;)Z"⟩, 7), (⟨"LyingBeacons$Reader", "takeSight", "(LLyingBeacons$Net;)Z"⟩, 7), (⟨"LyingBeacons$Reader", "takeRule", "(LLyingBeacons$Net;)Z"⟩, 7), (⟨"LyingBeacons$Reader", "takeWood", "(LLyingBeacons$Net;)Z"⟩, 7), (⟨"LyingBeacons$Reader", "takeSleep", "(LLyingBeacons$Net;)Z"⟩, 7), (⟨"LyingBeacons$Reader", "areMinutes", "(I)Z"⟩, 7), (⟨"LyingBeacons$Reader", "takeMist", "(LLyingBeacons$Net;)Z"⟩, 7), (⟨"LyingBeacons$Reader", "takeLiar", "(LLyingBeacons$Net;)Z"⟩, 7), (⟨"LyingBeacons", "playNight", "()V"⟩, 14), (⟨"LyingBeacons$Night", "playMinute", "(LLyingBeacons$Net;I)V"⟩, 3), (⟨"LyingBeacons$Night", "isFired", "(LLyingBeacons$Net;II)Z"⟩, 3), (⟨"LyingBeacons$Night", "ruleHeld", "(LLyingBeacons$Net;II)Z"⟩, 3)]
theorem lw_r1 : ∀ q ∈ lw_privs_1, lw_okq q := List.forall_mem_cons.mpr ⟨lw_p0, List.forall_mem_cons.mpr ⟨lw_p1, List.forall_mem_cons.mpr ⟨lw_p2, List.forall_mem_cons.mpr ⟨lw_p3, List.forall_mem_cons.mpr ⟨lw_p4, List.forall_mem_cons.mpr ⟨lw_p5, List.forall_mem_cons.mpr ⟨lw_p6, List.forall_mem_cons.mpr ⟨lw_p7, List.forall_mem_cons.mpr ⟨lw_p8, List.forall_mem_cons.mpr ⟨lw_p9, List.forall_mem_cons.mpr ⟨lw_p10, List.forall_mem_cons.mpr ⟨lw_p11, List.forall_mem_cons.mpr ⟨lw_p12, List.forall_mem_cons.mpr ⟨lw_p13, List.forall_mem_cons.mpr ⟨lw_p14, List.forall_mem_cons.mpr ⟨lw_p15, fun _ h => absurd h List.not_mem_nil⟩⟩⟩⟩⟩⟩⟩⟩⟩⟩⟩⟩⟩⟩⟩⟩
theorem lw_p16 : lw_okq (⟨"LyingBeacons$Night", "isHeard", "(LLyingBeacons$Net;I)Z"⟩, 3) := ⟨⟨by decide +kernel, by decide +kernel⟩, List.mem_of_getElem? (i := 136) (by decide +kernel), List.mem_of_getElem? (i := 413) (by decide +kernel), List.mem_of_getElem? (i := 414) (by decide +kernel)⟩
theorem lw_p17 : lw_okq (⟨"LyingBeacons$Council", "spread", "(III)I"⟩, 10) := ⟨⟨by decide +kernel, by decide +kernel⟩, List.mem_of_getElem? (i := 154) (by decide +kernel), List.mem_of_getElem? (i := 487) (by decide +kernel), List.mem_of_getElem? (i := 488) (by decide +kernel)⟩
theorem lw_p18 : lw_okq (⟨"LyingBeacons$Council", "ruleHeld", "(II)Z"⟩, 10) := ⟨⟨by decide +kernel, by decide +kernel⟩, List.mem_of_getElem? (i := 154) (by decide +kernel), List.mem_of_getElem? (i := 491) (by decide +kernel), List.mem_of_getElem? (i := 492) (by decide +kernel)⟩
theorem lw_p19 : lw_okq (⟨"LyingBeacons$Council", "turnSight", "(II)V"⟩, 10) := ⟨⟨by decide +kernel, by decide +kernel⟩, List.mem_of_getElem? (i := 154) (by decide +kernel), List.mem_of_getElem? (i := 513) (by decide +kernel), List.mem_of_getElem? (i := 514) (by decide +kernel)⟩
theorem lw_p20 : lw_okq (⟨"LyingBeacons$Council", "latestIfBorne", "(I)I"⟩, 10) := ⟨⟨by decide +kernel, by decide +kernel⟩, List.mem_of_getElem? (i := 154) (by decide +kernel), List.mem_of_getElem? (i := 526) (by decide +kernel), List.mem_of_getElem? (i := 527) (by decide +kernel)⟩
theorem lw_p21 : lw_okq (⟨"LyingBeacons$Council", "ruleAllBy", "(II)V"⟩, 10) := ⟨⟨by decide +kernel, by decide +kernel⟩, List.mem_of_getElem? (i := 154) (by decide +kernel), List.mem_of_getElem? (i := 539) (by decide +kernel), List.mem_of_getElem? (i := 540) (by decide +kernel)⟩
theorem lw_p22 : lw_okq (⟨"LyingBeacons$Signs", "takenIfMoved", "(III)I"⟩, 1) := ⟨⟨by decide +kernel, by decide +kernel⟩, List.mem_of_getElem? (i := 193) (by decide +kernel), List.mem_of_getElem? (i := 618) (by decide +kernel), List.mem_of_getElem? (i := 619) (by decide +kernel)⟩
theorem lw_p23 : lw_okq (⟨"LyingBeacons$Watchmen", "nextAwake", "(I)I"⟩, 1) := ⟨⟨by decide +kernel, by decide +kernel⟩, List.mem_of_getElem? (i := 203) (by decide +kernel), List.mem_of_getElem? (i := 639) (by decide +kernel), List.mem_of_getElem? (i := 640) (by decide +kernel)⟩
theorem lw_p24 : lw_okq (⟨"LyingBeaconsModel", "readAll", "()I"⟩, 30) := ⟨⟨by decide +kernel, by decide +kernel⟩, List.mem_of_getElem? (i := 693) (by decide +kernel), List.mem_of_getElem? (i := 807) (by decide +kernel), List.mem_of_getElem? (i := 808) (by decide +kernel)⟩
theorem lw_p25 : lw_okq (⟨"LyingBeaconsModel", "item", "()Z"⟩, 30) := ⟨⟨by decide +kernel, by decide +kernel⟩, List.mem_of_getElem? (i := 693) (by decide +kernel), List.mem_of_getElem? (i := 811) (by decide +kernel), List.mem_of_getElem? (i := 812) (by decide +kernel)⟩
theorem lw_p26 : lw_okq (⟨"LyingBeaconsModel", "hillItem", "()Z"⟩, 30) := ⟨⟨by decide +kernel, by decide +kernel⟩, List.mem_of_getElem? (i := 693) (by decide +kernel), List.mem_of_getElem? (i := 815) (by decide +kernel), List.mem_of_getElem? (i := 816) (by decide +kernel)⟩
theorem lw_p27 : lw_okq (⟨"LyingBeaconsModel", "numbers", "(I)Z"⟩, 30) := ⟨⟨by decide +kernel, by decide +kernel⟩, List.mem_of_getElem? (i := 693) (by decide +kernel), List.mem_of_getElem? (i := 819) (by decide +kernel), List.mem_of_getElem? (i := 820) (by decide +kernel)⟩
theorem lw_p28 : lw_okq (⟨"LyingBeaconsModel", "seeItem", "()Z"⟩, 30) := ⟨⟨by decide +kernel, by decide +kernel⟩, List.mem_of_getElem? (i := 693) (by decide +kernel), List.mem_of_getElem? (i := 826) (by decide +kernel), List.mem_of_getElem? (i := 827) (by decide +kernel)⟩
theorem lw_p29 : lw_okq (⟨"LyingBeaconsModel", "isRead", "(I)Z"⟩, 30) := ⟨⟨by decide +kernel, by decide +kernel⟩, List.mem_of_getElem? (i := 693) (by decide +kernel), List.mem_of_getElem? (i := 830) (by decide +kernel), List.mem_of_getElem? (i := 831) (by decide +kernel)⟩
theorem lw_p30 : lw_okq (⟨"LyingBeaconsModel", "ruleItem", "()Z"⟩, 30) := ⟨⟨by decide +kernel, by decide +kernel⟩, List.mem_of_getElem? (i := 693) (by decide +kernel), List.mem_of_getElem? (i := 837) (by decide +kernel), List.mem_of_getElem? (i := 838) (by decide +kernel)⟩
theorem lw_p31 : lw_okq (⟨"LyingBeaconsModel", "woodItem", "()Z"⟩, 30) := ⟨⟨by decide +kernel, by decide +kernel⟩, List.mem_of_getElem? (i := 693) (by decide +kernel), List.mem_of_getElem? (i := 842) (by decide +kernel), List.mem_of_getElem? (i := 843) (by decide +kernel)⟩
def lw_privs_2 : List (MethodName × Nat) := [(⟨"LyingBeacons$Night", "isHeard", "(LLyingBeacons$Net;I)Z"⟩, 3), (⟨"LyingBeacons$Council", "spread", "(III)I"⟩, 10), (⟨"LyingBeacons$Council", "ruleHeld", "(II)Z"⟩, 10), (⟨"LyingBeacons$Council", "turnSight", "(II)V"⟩, 10), (⟨"LyingBeacons$Council", "latestIfBorne", "(I)I"⟩, 10), (⟨"LyingBeacons$Council", "ruleAllBy", "(II)V"⟩, 10), (⟨"LyingBeacons$Signs", "takenIfMoved", "(III)I"⟩, 1), (⟨"LyingBeacons$Watchmen", "nextAwake", "(I)I"⟩, 1), (⟨"LyingBeaconsModel", "readAll", "()I"⟩, 30), (⟨"LyingBeaconsModel", "item", "()Z"⟩, 30), (⟨"LyingBeaconsModel", "hillItem", "()Z"⟩, 30), (⟨"LyingBeaconsModel", "numbers", "(I)Z"⟩, 30), (⟨"LyingBeaconsModel", "seeItem", "()Z"⟩, 30), (⟨"LyingBeaconsModel", "isRead", "(I)Z"⟩, 30), (⟨"LyingBeaconsModel", "ruleItem", "()Z"⟩, 30), (⟨"LyingBeaconsModel", "woodItem", "()Z"⟩, 30)]
theorem lw_r2 : ∀ q ∈ lw_privs_2, lw_okq q := List.forall_mem_cons.mpr ⟨lw_p16, List.forall_mem_cons.mpr ⟨lw_p17, List.forall_mem_cons.mpr ⟨lw_p18, List.forall_mem_cons.mpr ⟨lw_p19, List.forall_mem_cons.mpr ⟨lw_p20, List.forall_mem_cons.mpr ⟨lw_p21, List.forall_mem_cons.mpr ⟨lw_p22, List.forall_mem_cons.mpr ⟨lw_p23, List.forall_mem_cons.mpr ⟨lw_p24, List.forall_mem_cons.mpr ⟨lw_p25, List.forall_mem_cons.mpr ⟨lw_p26, List.forall_mem_cons.mpr ⟨lw_p27, List.forall_mem_cons.mpr ⟨lw_p28, List.forall_mem_cons.mpr ⟨lw_p29, List.forall_mem_cons.mpr ⟨lw_p30, List.forall_mem_cons.mpr ⟨lw_p31, fun _ h => absurd h List.not_mem_nil⟩⟩⟩⟩⟩⟩⟩⟩⟩⟩⟩⟩⟩⟩⟩⟩
theorem lw_p32 : lw_okq (⟨"LyingBeaconsModel", "spanItem", "(I)Z"⟩, 30) := ⟨⟨by decide +kernel, by decide +kernel⟩, List.mem_of_getElem? (i := 693) (by decide +kernel), List.mem_of_getElem? (i := 846) (by decide +kernel), List.mem_of_getElem? (i := 847) (by decide +kernel)⟩
theorem lw_p33 : lw_okq (⟨"LyingBeaconsModel", "copy", "(II)V"⟩, 30) := ⟨⟨by decide +kernel, by decide +kernel⟩, List.mem_of_getElem? (i := 693) (by decide +kernel), List.mem_of_getElem? (i := 854) (by decide +kernel), List.mem_of_getElem? (i := 855) (by decide +kernel)⟩
theorem lw_p34 : lw_okq (⟨"LyingBeaconsModel", "isHill", "(I)Z"⟩, 30) := ⟨⟨by decide +kernel, by decide +kernel⟩, List.mem_of_getElem? (i := 693) (by decide +kernel), List.mem_of_getElem? (i := 862) (by decide +kernel), List.mem_of_getElem? (i := 863) (by decide +kernel)⟩
theorem lw_p35 : lw_okq (⟨"LyingBeaconsModel", "ofKind", "(I)I"⟩, 30) := ⟨⟨by decide +kernel, by decide +kernel⟩, List.mem_of_getElem? (i := 693) (by decide +kernel), List.mem_of_getElem? (i := 871) (by decide +kernel), List.mem_of_getElem? (i := 872) (by decide +kernel)⟩
theorem lw_p36 : lw_okq (⟨"LyingBeaconsModel", "layNight", "()V"⟩, 30) := ⟨⟨by decide +kernel, by decide +kernel⟩, List.mem_of_getElem? (i := 693) (by decide +kernel), List.mem_of_getElem? (i := 880) (by decide +kernel), List.mem_of_getElem? (i := 881) (by decide +kernel)⟩
theorem lw_p37 : lw_okq (⟨"LyingBeaconsModel", "kindles", "(II)Z"⟩, 30) := ⟨⟨by decide +kernel, by decide +kernel⟩, List.mem_of_getElem? (i := 693) (by decide +kernel), List.mem_of_getElem? (i := 884) (by decide +kernel), List.mem_of_getElem? (i := 885) (by decide +kernel)⟩
theorem lw_p38 : lw_okq (⟨"LyingBeaconsModel", "isLiar", "(I)Z"⟩, 30) := ⟨⟨by decide +kernel, by decide +kernel⟩, List.mem_of_getElem? (i := 693) (by decide +kernel), List.mem_of_getElem? (i := 888) (by decide +kernel), List.mem_of_getElem? (i := 889) (by decide +kernel)⟩
theorem lw_p39 : lw_okq (⟨"LyingBeaconsModel", "isTold", "(III)Z"⟩, 30) := ⟨⟨by decide +kernel, by decide +kernel⟩, List.mem_of_getElem? (i := 693) (by decide +kernel), List.mem_of_getElem? (i := 892) (by decide +kernel), List.mem_of_getElem? (i := 893) (by decide +kernel)⟩
theorem lw_p40 : lw_okq (⟨"LyingBeaconsModel", "held", "(II)Z"⟩, 30) := ⟨⟨by decide +kernel, by decide +kernel⟩, List.mem_of_getElem? (i := 693) (by decide +kernel), List.mem_of_getElem? (i := 896) (by decide +kernel), List.mem_of_getElem? (i := 897) (by decide +kernel)⟩
theorem lw_p41 : lw_okq (⟨"LyingBeaconsModel", "isMist", "(III)Z"⟩, 30) := ⟨⟨by decide +kernel, by decide +kernel⟩, List.mem_of_getElem? (i := 693) (by decide +kernel), List.mem_of_getElem? (i := 900) (by decide +kernel), List.mem_of_getElem? (i := 901) (by decide +kernel)⟩
theorem lw_p42 : lw_okq (⟨"LyingBeaconsModel", "ear", "()I"⟩, 30) := ⟨⟨by decide +kernel, by decide +kernel⟩, List.mem_of_getElem? (i := 693) (by decide +kernel), List.mem_of_getElem? (i := 916) (by decide +kernel), List.mem_of_getElem? (i := 917) (by decide +kernel)⟩
theorem lw_p43 : lw_okq (⟨"LyingBeaconsModel", "asTold", "()V"⟩, 30) := ⟨⟨by decide +kernel, by decide +kernel⟩, List.mem_of_getElem? (i := 693) (by decide +kernel), List.mem_of_getElem? (i := 924) (by decide +kernel), List.mem_of_getElem? (i := 925) (by decide +kernel)⟩
theorem lw_p44 : lw_okq (⟨"LyingBeaconsModel", "men", "()I"⟩, 30) := ⟨⟨by decide +kernel, by decide +kernel⟩, List.mem_of_getElem? (i := 693) (by decide +kernel), List.mem_of_getElem? (i := 928) (by decide +kernel), List.mem_of_getElem? (i := 929) (by decide +kernel)⟩
theorem lw_p45 : lw_okq (⟨"LyingBeaconsModel", "isFalse", "(I)Z"⟩, 30) := ⟨⟨by decide +kernel, by decide +kernel⟩, List.mem_of_getElem? (i := 693) (by decide +kernel), List.mem_of_getElem? (i := 932) (by decide +kernel), List.mem_of_getElem? (i := 933) (by decide +kernel)⟩
theorem lw_p46 : lw_okq (⟨"LyingBeaconsModel", "kindle", "(II)V"⟩, 30) := ⟨⟨by decide +kernel, by decide +kernel⟩, List.mem_of_getElem? (i := 693) (by decide +kernel), List.mem_of_getElem? (i := 936) (by decide +kernel), List.mem_of_getElem? (i := 937) (by decide +kernel)⟩
theorem lw_p47 : lw_okq (⟨"LyingBeaconsModel", "spread", "(I)V"⟩, 30) := ⟨⟨by decide +kernel, by decide +kernel⟩, List.mem_of_getElem? (i := 693) (by decide +kernel), List.mem_of_getElem? (i := 941) (by decide +kernel), List.mem_of_getElem? (i := 942) (by decide +kernel)⟩
def lw_privs_3 : List (MethodName × Nat) := [(⟨"LyingBeaconsModel", "spanItem", "(I)Z"⟩, 30), (⟨"LyingBeaconsModel", "copy", "(II)V"⟩, 30), (⟨"LyingBeaconsModel", "isHill", "(I)Z"⟩, 30), (⟨"LyingBeaconsModel", "ofKind", "(I)I"⟩, 30), (⟨"LyingBeaconsModel", "layNight", "()V"⟩, 30), (⟨"LyingBeaconsModel", "kindles", "(II)Z"⟩, 30), (⟨"LyingBeaconsModel", "isLiar", "(I)Z"⟩, 30), (⟨"LyingBeaconsModel", "isTold", "(III)Z"⟩, 30), (⟨"LyingBeaconsModel", "held", "(II)Z"⟩, 30), (⟨"LyingBeaconsModel", "isMist", "(III)Z"⟩, 30), (⟨"LyingBeaconsModel", "ear", "()I"⟩, 30), (⟨"LyingBeaconsModel", "asTold", "()V"⟩, 30), (⟨"LyingBeaconsModel", "men", "()I"⟩, 30), (⟨"LyingBeaconsModel", "isFalse", "(I)Z"⟩, 30), (⟨"LyingBeaconsModel", "kindle", "(II)V"⟩, 30), (⟨"LyingBeaconsModel", "spread", "(I)V"⟩, 30)]
theorem lw_r3 : ∀ q ∈ lw_privs_3, lw_okq q := List.forall_mem_cons.mpr ⟨lw_p32, List.forall_mem_cons.mpr ⟨lw_p33, List.forall_mem_cons.mpr ⟨lw_p34, List.forall_mem_cons.mpr ⟨lw_p35, List.forall_mem_cons.mpr ⟨lw_p36, List.forall_mem_cons.mpr ⟨lw_p37, List.forall_mem_cons.mpr ⟨lw_p38, List.forall_mem_cons.mpr ⟨lw_p39, List.forall_mem_cons.mpr ⟨lw_p40, List.forall_mem_cons.mpr ⟨lw_p41, List.forall_mem_cons.mpr ⟨lw_p42, List.forall_mem_cons.mpr ⟨lw_p43, List.forall_mem_cons.mpr ⟨lw_p44, List.forall_mem_cons.mpr ⟨lw_p45, List.forall_mem_cons.mpr ⟨lw_p46, List.forall_mem_cons.mpr ⟨lw_p47, fun _ h => absurd h List.not_mem_nil⟩⟩⟩⟩⟩⟩⟩⟩⟩⟩⟩⟩⟩⟩⟩⟩
theorem lw_p48 : lw_okq (⟨"LyingBeaconsModel", "together", "(I)I"⟩, 30) := ⟨⟨by decide +kernel, by decide +kernel⟩, List.mem_of_getElem? (i := 693) (by decide +kernel), List.mem_of_getElem? (i := 945) (by decide +kernel), List.mem_of_getElem? (i := 946) (by decide +kernel)⟩
theorem lw_p49 : lw_okq (⟨"LyingBeaconsModel", "needs", "(I)I"⟩, 30) := ⟨⟨by decide +kernel, by decide +kernel⟩, List.mem_of_getElem? (i := 693) (by decide +kernel), List.mem_of_getElem? (i := 949) (by decide +kernel), List.mem_of_getElem? (i := 950) (by decide +kernel)⟩
theorem lw_p50 : lw_okq (⟨"LyingBeaconsModel", "takes", "(I)I"⟩, 30) := ⟨⟨by decide +kernel, by decide +kernel⟩, List.mem_of_getElem? (i := 693) (by decide +kernel), List.mem_of_getElem? (i := 953) (by decide +kernel), List.mem_of_getElem? (i := 954) (by decide +kernel)⟩
theorem lw_p51 : lw_okq (⟨"LyingBeaconsModel", "alarmBy", "(II)I"⟩, 30) := ⟨⟨by decide +kernel, by decide +kernel⟩, List.mem_of_getElem? (i := 693) (by decide +kernel), List.mem_of_getElem? (i := 968) (by decide +kernel), List.mem_of_getElem? (i := 969) (by decide +kernel)⟩
theorem lw_p52 : lw_okq (⟨"LyingBeaconsModel", "lateOf", "(II)I"⟩, 30) := ⟨⟨by decide +kernel, by decide +kernel⟩, List.mem_of_getElem? (i := 693) (by decide +kernel), List.mem_of_getElem? (i := 976) (by decide +kernel), List.mem_of_getElem? (i := 977) (by decide +kernel)⟩
theorem lw_p53 : lw_okq (⟨"LyingBeaconsModel", "latest", "(I)I"⟩, 30) := ⟨⟨by decide +kernel, by decide +kernel⟩, List.mem_of_getElem? (i := 693) (by decide +kernel), List.mem_of_getElem? (i := 980) (by decide +kernel), List.mem_of_getElem? (i := 981) (by decide +kernel)⟩
theorem lw_p54 : lw_okq (⟨"LyingBeaconsModel", "mostBorne", "()I"⟩, 30) := ⟨⟨by decide +kernel, by decide +kernel⟩, List.mem_of_getElem? (i := 693) (by decide +kernel), List.mem_of_getElem? (i := 988) (by decide +kernel), List.mem_of_getElem? (i := 989) (by decide +kernel)⟩
theorem lw_p55 : lw_okq (⟨"LyingBeaconsModel", "bearsSo", "(I)Z"⟩, 30) := ⟨⟨by decide +kernel, by decide +kernel⟩, List.mem_of_getElem? (i := 693) (by decide +kernel), List.mem_of_getElem? (i := 992) (by decide +kernel), List.mem_of_getElem? (i := 993) (by decide +kernel)⟩
theorem lw_p56 : lw_okq (⟨"LyingBeaconsModel", "causes", "(I)I"⟩, 30) := ⟨⟨by decide +kernel, by decide +kernel⟩, List.mem_of_getElem? (i := 693) (by decide +kernel), List.mem_of_getElem? (i := 1014) (by decide +kernel), List.mem_of_getElem? (i := 1015) (by decide +kernel)⟩
theorem lw_p57 : lw_okq (⟨"LyingBeaconsModel", "cause", "(I)I"⟩, 30) := ⟨⟨by decide +kernel, by decide +kernel⟩, List.mem_of_getElem? (i := 693) (by decide +kernel), List.mem_of_getElem? (i := 1018) (by decide +kernel), List.mem_of_getElem? (i := 1019) (by decide +kernel)⟩
theorem lw_p58 : lw_okq (⟨"LyingBeaconsModel", "asked", "()I"⟩, 30) := ⟨⟨by decide +kernel, by decide +kernel⟩, List.mem_of_getElem? (i := 693) (by decide +kernel), List.mem_of_getElem? (i := 1022) (by decide +kernel), List.mem_of_getElem? (i := 1023) (by decide +kernel)⟩
theorem lw_p59 : lw_okq (⟨"LyingBeaconsModel", "soon", "()I"⟩, 30) := ⟨⟨by decide +kernel, by decide +kernel⟩, List.mem_of_getElem? (i := 693) (by decide +kernel), List.mem_of_getElem? (i := 1026) (by decide +kernel), List.mem_of_getElem? (i := 1027) (by decide +kernel)⟩
theorem lw_p60 : lw_okq (⟨"LyingBeaconsModel", "doesSend", "(II)Z"⟩, 30) := ⟨⟨by decide +kernel, by decide +kernel⟩, List.mem_of_getElem? (i := 693) (by decide +kernel), List.mem_of_getElem? (i := 1059) (by decide +kernel), List.mem_of_getElem? (i := 1060) (by decide +kernel)⟩
theorem lw_p61 : lw_okq (⟨"LyingBeaconsModel", "copyAll", "(II)V"⟩, 30) := ⟨⟨by decide +kernel, by decide +kernel⟩, List.mem_of_getElem? (i := 693) (by decide +kernel), List.mem_of_getElem? (i := 1071) (by decide +kernel), List.mem_of_getElem? (i := 1072) (by decide +kernel)⟩
def lw_privs_4 : List (MethodName × Nat) := [(⟨"LyingBeaconsModel", "together", "(I)I"⟩, 30), (⟨"LyingBeaconsModel", "needs", "(I)I"⟩, 30), (⟨"LyingBeaconsModel", "takes", "(I)I"⟩, 30), (⟨"LyingBeaconsModel", "alarmBy", "(II)I"⟩, 30), (⟨"LyingBeaconsModel", "lateOf", "(II)I"⟩, 30), (⟨"LyingBeaconsModel", "latest", "(I)I"⟩, 30), (⟨"LyingBeaconsModel", "mostBorne", "()I"⟩, 30), (⟨"LyingBeaconsModel", "bearsSo", "(I)Z"⟩, 30), (⟨"LyingBeaconsModel", "causes", "(I)I"⟩, 30), (⟨"LyingBeaconsModel", "cause", "(I)I"⟩, 30), (⟨"LyingBeaconsModel", "asked", "()I"⟩, 30), (⟨"LyingBeaconsModel", "soon", "()I"⟩, 30), (⟨"LyingBeaconsModel", "doesSend", "(II)Z"⟩, 30), (⟨"LyingBeaconsModel", "copyAll", "(II)V"⟩, 30)]
theorem lw_r4 : ∀ q ∈ lw_privs_4, lw_okq q := List.forall_mem_cons.mpr ⟨lw_p48, List.forall_mem_cons.mpr ⟨lw_p49, List.forall_mem_cons.mpr ⟨lw_p50, List.forall_mem_cons.mpr ⟨lw_p51, List.forall_mem_cons.mpr ⟨lw_p52, List.forall_mem_cons.mpr ⟨lw_p53, List.forall_mem_cons.mpr ⟨lw_p54, List.forall_mem_cons.mpr ⟨lw_p55, List.forall_mem_cons.mpr ⟨lw_p56, List.forall_mem_cons.mpr ⟨lw_p57, List.forall_mem_cons.mpr ⟨lw_p58, List.forall_mem_cons.mpr ⟨lw_p59, List.forall_mem_cons.mpr ⟨lw_p60, List.forall_mem_cons.mpr ⟨lw_p61, fun _ h => absurd h List.not_mem_nil⟩⟩⟩⟩⟩⟩⟩⟩⟩⟩⟩⟩⟩⟩
def lw_privs : List (MethodName × Nat) := lw_privs_1 ++ (lw_privs_2 ++ (lw_privs_3 ++ (lw_privs_4)))
def lw_tbl : List Cond := k2_sels lw_privs ++ tables_1
theorem lw_privs_ok : ∀ q ∈ lw_privs, lw_okq q := by
  show ∀ q ∈ lw_privs_1 ++ (lw_privs_2 ++ (lw_privs_3 ++ (lw_privs_4))), lw_okq q
  exact List.forall_mem_append.mpr ⟨lw_r1, List.forall_mem_append.mpr ⟨lw_r2, List.forall_mem_append.mpr ⟨lw_r3, lw_r4⟩⟩⟩
end
section
def RX0 : String := "LyingBeacons$Council"
def TX0 : u_T := fun k => match k with
  | 0 => ("LyingBeacons$Council", "bestMark", "I", false)
  | 1 => ("LyingBeacons$Council", "bestMinute", "I", false)
  | 2 => ("LyingBeacons$Council", "ear", "I", false)
  | 3 => ("LyingBeacons$Council", "heads", "I", false)
  | 4 => ("LyingBeacons$Council", "folk", "I", false)
  | 5 => ("LyingBeacons$Council", "sees", "[I", true)
  | 6 => ("LyingBeacons$Council", "needs", "[I", true)
  | 7 => ("LyingBeacons$Council", "span", "[I", true)
  | 8 => ("LyingBeacons$Council", "lit", "[I", true)
  | _ => ("LyingBeacons$Council", "lastMinute", "I", false)
def tyX0 : Nat → FieldType := fun k => match k with
  | 0 => .int
  | 1 => .int
  | 2 => .int
  | 3 => .int
  | 4 => .int
  | 5 => .array .int
  | 6 => .array .int
  | 7 => .array .int
  | 8 => .array .int
  | _ => .int
theorem nmX0 : ∀ a, a < 10 → ∀ b, b < 10 → a ≠ b → (TX0 a).2.1 ≠ (TX0 b).2.1 := by decide +kernel
theorem tyX0_ok : ∀ k, k < 10 → parseFieldDescriptor (TX0 k).2.2.1 = some (tyX0 k) := by decide +kernel
theorem inX0 : ∀ w ∈ u_ws RX0 TX0 10, w ∈ lw_tbl := by decide +kernel
def RX1 : String := "LyingBeacons$King"
def TX1 : u_T := fun k => match k with
  | _ => ("LyingBeacons$King", "costs", "[I", true)
def tyX1 : Nat → FieldType := fun k => match k with
  | _ => .array .int
theorem nmX1 : ∀ a, a < 1 → ∀ b, b < 1 → a ≠ b → (TX1 a).2.1 ≠ (TX1 b).2.1 := by decide +kernel
theorem tyX1_ok : ∀ k, k < 1 → parseFieldDescriptor (TX1 k).2.2.1 = some (tyX1 k) := by decide +kernel
theorem inX1 : ∀ w ∈ u_ws RX1 TX1 1, w ∈ lw_tbl := by decide +kernel
def RX3 : String := "LyingBeacons$Net"
def TX3 : u_T := fun k => match k with
  | 0 => ("LyingBeacons$Net", "hills", "I", false)
  | 1 => ("LyingBeacons$Net", "kind", "[I", true)
  | 2 => ("LyingBeacons$Net", "sees", "[I", true)
  | 3 => ("LyingBeacons$Net", "needs", "[I", true)
  | 4 => ("LyingBeacons$Net", "span", "[I", true)
  | 5 => ("LyingBeacons$Net", "stock", "[I", true)
  | 6 => ("LyingBeacons$Net", "logged", "[I", true)
  | 7 => ("LyingBeacons$Net", "asleep", "[J", true)
  | 8 => ("LyingBeacons$Net", "lies", "[J", true)
  | 9 => ("LyingBeacons$Net", "mist", "[J", true)
  | 10 => ("LyingBeacons$Net", "shipHeads", "I", false)
  | _ => ("LyingBeacons$Net", "shipMinutes", "J", false)
def tyX3 : Nat → FieldType := fun k => match k with
  | 0 => .int
  | 1 => .array .int
  | 2 => .array .int
  | 3 => .array .int
  | 4 => .array .int
  | 5 => .array .int
  | 6 => .array .int
  | 7 => .array .long
  | 8 => .array .long
  | 9 => .array .long
  | 10 => .int
  | _ => .long
theorem nmX3 : ∀ a, a < 12 → ∀ b, b < 12 → a ≠ b → (TX3 a).2.1 ≠ (TX3 b).2.1 := by decide +kernel
theorem tyX3_ok : ∀ k, k < 12 → parseFieldDescriptor (TX3 k).2.2.1 = some (tyX3 k) := by decide +kernel
theorem inX3 : ∀ w ∈ u_ws RX3 TX3 12, w ∈ lw_tbl := by decide +kernel
def RX4 : String := "LyingBeacons$Night"
def TX4 : u_T := fun k => match k with
  | 0 => ("LyingBeacons$Night", "left", "[I", true)
  | 1 => ("LyingBeacons$Night", "firstAlarm", "I", false)
  | _ => ("LyingBeacons$Night", "lit", "[J", true)
def tyX4 : Nat → FieldType := fun k => match k with
  | 0 => .array .int
  | 1 => .int
  | _ => .array .long
theorem nmX4 : ∀ a, a < 3 → ∀ b, b < 3 → a ≠ b → (TX4 a).2.1 ≠ (TX4 b).2.1 := by decide +kernel
theorem tyX4_ok : ∀ k, k < 3 → parseFieldDescriptor (TX4 k).2.2.1 = some (tyX4 k) := by decide +kernel
theorem inX4 : ∀ w ∈ u_ws RX4 TX4 3, w ∈ lw_tbl := by decide +kernel
def RX5 : String := "LyingBeacons$Reader"
def TX5 : u_T := fun k => match k with
  | 0 => ("LyingBeacons$Reader", "numbers", "[I", true)
  | 1 => ("LyingBeacons$Reader", "numbersRead", "I", false)
  | 2 => ("LyingBeacons$Reader", "place", "I", false)
  | 3 => ("LyingBeacons$Reader", "letter", "I", false)
  | 4 => ("LyingBeacons$Reader", "onlyHillsYet", "Z", false)
  | 5 => ("LyingBeacons$Reader", "ruled", "I", false)
  | _ => ("LyingBeacons$Reader", "stocked", "I", false)
def tyX5 : Nat → FieldType := fun k => match k with
  | 0 => .array .int
  | 1 => .int
  | 2 => .int
  | 3 => .int
  | 4 => .boolean
  | 5 => .int
  | _ => .int
theorem nmX5 : ∀ a, a < 7 → ∀ b, b < 7 → a ≠ b → (TX5 a).2.1 ≠ (TX5 b).2.1 := by decide +kernel
theorem tyX5_ok : ∀ k, k < 7 → parseFieldDescriptor (TX5 k).2.2.1 = some (tyX5 k) := by decide +kernel
theorem inX5 : ∀ w ∈ u_ws RX5 TX5 7, w ∈ lw_tbl := by decide +kernel
def RX6 : String := "LyingBeacons$Signs"
def TX6 : u_T := fun k => match k with
  | _ => ("LyingBeacons$Signs", "fires", "[I", true)
def tyX6 : Nat → FieldType := fun k => match k with
  | _ => .array .int
theorem nmX6 : ∀ a, a < 1 → ∀ b, b < 1 → a ≠ b → (TX6 a).2.1 ≠ (TX6 b).2.1 := by decide +kernel
theorem tyX6_ok : ∀ k, k < 1 → parseFieldDescriptor (TX6 k).2.2.1 = some (tyX6 k) := by decide +kernel
theorem inX6 : ∀ w ∈ u_ws RX6 TX6 1, w ∈ lw_tbl := by decide +kernel
def RX7 : String := "LyingBeacons$Watchmen"
def TX7 : u_T := fun k => match k with
  | _ => ("LyingBeacons$Watchmen", "hours", "[I", true)
def tyX7 : Nat → FieldType := fun k => match k with
  | _ => .array .int
theorem nmX7 : ∀ a, a < 1 → ∀ b, b < 1 → a ≠ b → (TX7 a).2.1 ≠ (TX7 b).2.1 := by decide +kernel
theorem tyX7_ok : ∀ k, k < 1 → parseFieldDescriptor (TX7 k).2.2.1 = some (tyX7 k) := by decide +kernel
theorem inX7 : ∀ w ∈ u_ws RX7 TX7 1, w ∈ lw_tbl := by decide +kernel
def RX8 : String := "LyingBeacons"
def TX8 : u_T := fun k => match k with
  | 0 => ("LyingBeacons", "text", "[B", true)
  | 1 => ("LyingBeacons", "length", "I", false)
  | 2 => ("LyingBeacons", "reader", "LLyingBeacons$Reader;", true)
  | 3 => ("LyingBeacons", "draft", "LLyingBeacons$Net;", true)
  | 4 => ("LyingBeacons", "net", "LLyingBeacons$Net;", true)
  | 5 => ("LyingBeacons", "firstKept", "LLyingBeacons$Net;", true)
  | 6 => ("LyingBeacons", "secondKept", "LLyingBeacons$Net;", true)
  | 7 => ("LyingBeacons", "kept", "I", false)
  | 8 => ("LyingBeacons", "night", "LLyingBeacons$Night;", true)
  | 9 => ("LyingBeacons", "nightPlayed", "Z", false)
  | 10 => ("LyingBeacons", "council", "LLyingBeacons$Council;", true)
  | 11 => ("LyingBeacons", "signs", "LLyingBeacons$Signs;", true)
  | 12 => ("LyingBeacons", "watchmen", "LLyingBeacons$Watchmen;", true)
  | _ => ("LyingBeacons", "king", "LLyingBeacons$King;", true)
def tyX8 : Nat → FieldType := fun k => match k with
  | 0 => .array .byte
  | 1 => .int
  | 2 => .object "LyingBeacons$Reader"
  | 3 => .object "LyingBeacons$Net"
  | 4 => .object "LyingBeacons$Net"
  | 5 => .object "LyingBeacons$Net"
  | 6 => .object "LyingBeacons$Net"
  | 7 => .int
  | 8 => .object "LyingBeacons$Night"
  | 9 => .boolean
  | 10 => .object "LyingBeacons$Council"
  | 11 => .object "LyingBeacons$Signs"
  | 12 => .object "LyingBeacons$Watchmen"
  | _ => .object "LyingBeacons$King"
theorem nmX8 : ∀ a, a < 14 → ∀ b, b < 14 → a ≠ b → (TX8 a).2.1 ≠ (TX8 b).2.1 := by decide +kernel
theorem tyX8_ok : ∀ k, k < 14 → parseFieldDescriptor (TX8 k).2.2.1 = some (tyX8 k) := by decide +kernel
theorem inX8 : ∀ w ∈ u_ws RX8 TX8 14, w ∈ lw_tbl := by decide +kernel
def RX9 : String := "LyingBeaconsModel"
def TX9 : u_T := fun k => match k with
  | 0 => ("LyingBeaconsModel", "length", "I", false)
  | 1 => ("LyingBeaconsModel", "text", "[I", true)
  | 2 => ("LyingBeaconsModel", "hillMany", "[I", true)
  | 3 => ("LyingBeaconsModel", "kinds", "[I", true)
  | 4 => ("LyingBeaconsModel", "sees", "[I", true)
  | 5 => ("LyingBeaconsModel", "ks", "[I", true)
  | 6 => ("LyingBeaconsModel", "ms", "[I", true)
  | 7 => ("LyingBeaconsModel", "woods", "[I", true)
  | 8 => ("LyingBeaconsModel", "spanMany", "[I", true)
  | 9 => ("LyingBeaconsModel", "spans", "[I", true)
  | 10 => ("LyingBeaconsModel", "ships", "[I", true)
  | 11 => ("LyingBeaconsModel", "logged", "[I", true)
  | 12 => ("LyingBeaconsModel", "keptMany", "I", false)
  | 13 => ("LyingBeaconsModel", "signs", "[I", true)
  | 14 => ("LyingBeaconsModel", "costs", "[I", true)
  | 15 => ("LyingBeaconsModel", "at", "I", false)
  | 16 => ("LyingBeaconsModel", "told", "[I", true)
  | 17 => ("LyingBeaconsModel", "ruled", "I", false)
  | 18 => ("LyingBeaconsModel", "wooded", "I", false)
  | 19 => ("LyingBeaconsModel", "isBegun", "Z", false)
  | 20 => ("LyingBeaconsModel", "fires", "[I", true)
  | 21 => ("LyingBeaconsModel", "left", "[I", true)
  | 22 => ("LyingBeaconsModel", "manned", "I", false)
  | 23 => ("LyingBeaconsModel", "allK", "I", false)
  | 24 => ("LyingBeaconsModel", "allM", "I", false)
  | 25 => ("LyingBeaconsModel", "goneA", "I", false)
  | 26 => ("LyingBeaconsModel", "goneB", "I", false)
  | 27 => ("LyingBeaconsModel", "since", "[I", true)
  | 28 => ("LyingBeaconsModel", "row", "[I", true)
  | _ => ("LyingBeaconsModel", "hours", "[I", true)
def tyX9 : Nat → FieldType := fun k => match k with
  | 0 => .int
  | 1 => .array .int
  | 2 => .array .int
  | 3 => .array .int
  | 4 => .array .int
  | 5 => .array .int
  | 6 => .array .int
  | 7 => .array .int
  | 8 => .array .int
  | 9 => .array .int
  | 10 => .array .int
  | 11 => .array .int
  | 12 => .int
  | 13 => .array .int
  | 14 => .array .int
  | 15 => .int
  | 16 => .array .int
  | 17 => .int
  | 18 => .int
  | 19 => .boolean
  | 20 => .array .int
  | 21 => .array .int
  | 22 => .int
  | 23 => .int
  | 24 => .int
  | 25 => .int
  | 26 => .int
  | 27 => .array .int
  | 28 => .array .int
  | _ => .array .int
theorem nmX9 : ∀ a, a < 30 → ∀ b, b < 30 → a ≠ b → (TX9 a).2.1 ≠ (TX9 b).2.1 := by decide +kernel
theorem tyX9_ok : ∀ k, k < 30 → parseFieldDescriptor (TX9 k).2.2.1 = some (tyX9 k) := by decide +kernel
theorem inX9 : ∀ w ∈ u_ws RX9 TX9 30, w ∈ lw_tbl := by decide +kernel
abbrev vwCl : List vw_C := [(RX0, TX0, 10), (RX1, TX1, 1), (RX3, TX3, 12), (RX4, TX4, 3), (RX5, TX5, 7), (RX6, TX6, 1), (RX7, TX7, 1), (RX8, TX8, 14), (RX9, TX9, 30)]
def jm_fts (ci : Nat) : List FieldType := match ci with
  | 0 => [.int, .int, .int, .int, .int, .array .int, .array .int, .array .int, .array .int, .int]
  | 1 => [.array .int]
  | 2 => [.int, .array .int, .array .int, .array .int, .array .int, .array .int, .array .int, .array .long, .array .long, .array .long, .int, .long]
  | 3 => [.array .int, .int, .array .long]
  | 4 => [.array .int, .int, .int, .int, .boolean, .int, .int]
  | 5 => [.array .int]
  | 6 => [.array .int]
  | 7 => [.array .byte, .int, .object "LyingBeacons$Reader", .object "LyingBeacons$Net", .object "LyingBeacons$Net", .object "LyingBeacons$Net", .object "LyingBeacons$Net", .int, .object "LyingBeacons$Night", .boolean, .object "LyingBeacons$Council", .object "LyingBeacons$Signs", .object "LyingBeacons$Watchmen", .object "LyingBeacons$King"]
  | 8 => [.int, .array .int, .array .int, .array .int, .array .int, .array .int, .array .int, .array .int, .array .int, .array .int, .array .int, .array .int, .int, .array .int, .array .int, .int, .array .int, .int, .int, .boolean, .array .int, .array .int, .int, .int, .int, .int, .int, .array .int, .array .int, .array .int]
  | _ => []
def jm_tbl : List Cond := lw_tbl.filter goodWord
theorem jm_in {w : Cond} (h : w ∈ lw_tbl) (g : goodWord w = true) : w ∈ jm_tbl := List.mem_filter.mpr ⟨h, g⟩
theorem jm_good : GoodIn jm_tbl jm_tbl := fun w h => ⟨h, good_of_word (List.mem_filter.mp h).2⟩
theorem inY0 : ∀ w ∈ u_ws RX0 TX0 10, w ∈ jm_tbl := fun w h => jm_in (inX0 w h) (List.all_eq_true.mp (show (u_ws RX0 TX0 10).all goodWord = true by decide +kernel) w h)
theorem inY1 : ∀ w ∈ u_ws RX1 TX1 1, w ∈ jm_tbl := fun w h => jm_in (inX1 w h) (List.all_eq_true.mp (show (u_ws RX1 TX1 1).all goodWord = true by decide +kernel) w h)
theorem inY3 : ∀ w ∈ u_ws RX3 TX3 12, w ∈ jm_tbl := fun w h => jm_in (inX3 w h) (List.all_eq_true.mp (show (u_ws RX3 TX3 12).all goodWord = true by decide +kernel) w h)
theorem inY4 : ∀ w ∈ u_ws RX4 TX4 3, w ∈ jm_tbl := fun w h => jm_in (inX4 w h) (List.all_eq_true.mp (show (u_ws RX4 TX4 3).all goodWord = true by decide +kernel) w h)
theorem inY5 : ∀ w ∈ u_ws RX5 TX5 7, w ∈ jm_tbl := fun w h => jm_in (inX5 w h) (List.all_eq_true.mp (show (u_ws RX5 TX5 7).all goodWord = true by decide +kernel) w h)
theorem inY6 : ∀ w ∈ u_ws RX6 TX6 1, w ∈ jm_tbl := fun w h => jm_in (inX6 w h) (List.all_eq_true.mp (show (u_ws RX6 TX6 1).all goodWord = true by decide +kernel) w h)
theorem inY7 : ∀ w ∈ u_ws RX7 TX7 1, w ∈ jm_tbl := fun w h => jm_in (inX7 w h) (List.all_eq_true.mp (show (u_ws RX7 TX7 1).all goodWord = true by decide +kernel) w h)
theorem inY8 : ∀ w ∈ u_ws RX8 TX8 14, w ∈ jm_tbl := fun w h => jm_in (inX8 w h) (List.all_eq_true.mp (show (u_ws RX8 TX8 14).all goodWord = true by decide +kernel) w h)
theorem inY9 : ∀ w ∈ u_ws RX9 TX9 30, w ∈ jm_tbl := fun w h => jm_in (inX9 w h) (List.all_eq_true.mp (show (u_ws RX9 TX9 30).all goodWord = true by decide +kernel) w h)
def jm_nest : List (String × Nat × MethodName × String) := [("LyingBeacons$Reader", 124, ⟨"LyingBeacons", "isMinute", "(I)Z"⟩, "LyingBeacons"), ("LyingBeacons$Reader", 113, ⟨"LyingBeacons", "minutesFrom", "(II)J"⟩, "LyingBeacons"), ("LyingBeacons$Night", 23, ⟨"LyingBeacons", "isMinute", "(I)Z"⟩, "LyingBeacons"), ("LyingBeacons$Night", 73, ⟨"LyingBeacons", "minutesFrom", "(II)J"⟩, "LyingBeacons"), ("LyingBeacons$Signs", 15, ⟨"LyingBeacons", "isSign", "(I)Z"⟩, "LyingBeacons")]
theorem jm_nest_in : ∀ q ∈ jm_nest, Cond.methodLinkNest q.1 q.2.1 q.2.2.1 q.2.2.2 ∈ lw_tbl := by decide +kernel
end
section
abbrev jm_S : Type := (FieldType × Nat) ⊕ Nat
def jm_tab : List jm_S := [.inl (.int, 0), .inr 7, .inl (.byte, 300), .inr 4, .inl (.int, 4), .inr 2, .inl (.int, 10), .inl (.int, 10), .inl (.int, 10), .inl (.int, 10), .inl (.int, 10), .inl (.int, 10), .inl (.long, 10), .inl (.long, 10), .inl (.long, 100), .inr 2, .inl (.int, 10), .inl (.int, 10), .inl (.int, 10), .inl (.int, 10), .inl (.int, 10), .inl (.int, 10), .inl (.long, 10), .inl (.long, 10), .inl (.long, 100), .inr 2, .inl (.int, 10), .inl (.int, 10), .inl (.int, 10), .inl (.int, 10), .inl (.int, 10), .inl (.int, 10), .inl (.long, 10), .inl (.long, 10), .inl (.long, 100), .inr 2, .inl (.int, 10), .inl (.int, 10), .inl (.int, 10), .inl (.int, 10), .inl (.int, 10), .inl (.int, 10), .inl (.long, 10), .inl (.long, 10), .inl (.long, 100), .inr 3, .inl (.int, 10), .inl (.long, 10), .inr 0, .inl (.int, 10), .inl (.int, 10), .inl (.int, 10), .inl (.int, 100), .inr 5, .inl (.int, 72), .inr 6, .inl (.int, 4), .inr 1, .inl (.int, 3), .inr 8, .inl (.int, 300), .inl (.int, 4), .inl (.int, 40), .inl (.int, 40), .inl (.int, 40), .inl (.int, 40), .inl (.int, 40), .inl (.int, 4), .inl (.int, 860), .inl (.int, 9), .inl (.int, 30), .inl (.int, 72), .inl (.int, 3), .inl (.int, 4), .inl (.int, 60), .inl (.int, 10), .inl (.int, 10), .inl (.int, 10), .inl (.int, 4)]
def jm_sh (i : Nat) : jm_S := jm_tab.getD i (.inl (.int, 0))
/-! memory: whole numbers and longs of each cell by place; references apart -/
abbrev jm_M : Type := (Nat → Nat → Int32) × (Nat → Nat → Int64)
abbrev jm_R : Type := Nat → Nat → Option Nat
abbrev jm_Y : Type := MethodName × ByteArray × Nat × Option FieldType × Room × Option (Nat × (Nat → Int32))
def jm_nm (Y : jm_Y) : MethodName := Y.1
def jm_cd (Y : jm_Y) : ByteArray := Y.2.1
def jm_ml (Y : jm_Y) : Nat := Y.2.2.1
def jm_rt (Y : jm_Y) : Option FieldType := Y.2.2.2.1
def jm_rm (Y : jm_Y) : Room := Y.2.2.2.2.1
def jm_sc (Y : jm_Y) : Option (Nat × (Nat → Int32)) := Y.2.2.2.2.2
def jm_rv (base : Nat) (r : Option Nat) : Value := match r with
  | none => .null
  | some q => .ref (base + q)
def jm_fv (base : Nat) (mr : jm_R) (σ : jm_M) (i k : Nat) (ty : FieldType) : Value := match ty with
  | .long => .long (σ.2 i k)
  | .array _ => jm_rv base (mr i k)
  | .object _ => jm_rv base (mr i k)
  | _ => .int (σ.1 i k)
def jm_ar (g : ClassId × ClassId × ClassId) (σ : jm_M) (i : Nat) (ty : FieldType) (len : Nat) : va_E := match ty with
  | .long => .inl (g.2.2, len, .inr (.inl (σ.2 i)))
  | .byte => .inl (g.2.1, len, .inl (σ.1 i))
  | _ => .inl (g.1, len, .inl (σ.1 i))
def jm_cell (g : ClassId × ClassId × ClassId) (base : Nat) (mr : jm_R) (σ : jm_M) (i : Nat) : va_E := match jm_sh i with
  | .inl q => jm_ar g σ i q.1 q.2
  | .inr ci => .inr (ci, (jm_fts ci).mapIdx (fun k ty => jm_fv base mr σ i k ty))
def jm_ws (g : ClassId × ClassId × ClassId) (base n : Nat) (mr : jm_R) (σ : jm_M) : va_W := (List.range n).map (fun i => (base + (i + 1), jm_cell g base mr σ (i + 1)))
def jm_Rep (D : va_G) (g : ClassId × ClassId × ClassId) (base n : Nat) (mr : jm_R) (σ : jm_M) (H : Heap) : Prop := H.size = base + n + 1 ∧ va_P D vwCl (jm_ws g base n mr σ) H
def jm_tr (base b : Nat) (v : Value) : Value := match v with
  | .ref 0 => .ref b
  | .ref (i + 1) => .ref (base + (i + 1))
  | v => v
def jm_tp (base b : Nat) (q : Nat × Value) : Nat × Value := (q.1, jm_tr base b q.2)
def jm_ty (g : ClassId × ClassId × ClassId) : List (ClassId × FieldType) := [(g.1, .int), (g.2.1, .byte), (g.2.2, .long)]
def jm_N (s : State) : Prop := ∀ q ∈ jm_nest, va_Nw (.methodLinkNest q.1 q.2.1 q.2.2.1 q.2.2.2) s
def jm_Cx (Y : jm_Y) (D : va_G) (g : ClassId × ClassId × ClassId) (base b : Nat) (p : Program) (s : State) (m : MethodId) (args : Array Value) (meth : Method) (c : Code) : Prop :=
  p.tables.exec = Jvm.exec ∧ c.code = jm_cd Y ∧ c.maxLocals = jm_ml Y ∧ s.vm.findClass (jm_nm Y).cls = some m.cls ∧ (∀ w ∈ jm_tbl, w.before args s = true) ∧ va_K D vwCl (jm_ty g) s ∧ base < s.heap.size ∧ meth.locks = false ∧ ((jm_nm Y).name = "<init>" → meth.name = "<init>") ∧ (∀ q, jm_sc Y = some q → va_X b q.1 q.2 s s.heap ∧ b < s.heap.size ∧ b ≤ base) ∧ jm_N s
def jm_A (base : Nat) : Nat → Prop := fun q => base < q
/-- a place of the code where the answer v goes back -/
def jm_isR (Y : jm_Y) (pc : Nat) (v : Option Value) : Prop := match v with
  | none => decode (jm_cd Y) pc = .ok (.return_, 1) ∧ jm_rt Y = none
  | some (.int x) => decode (jm_cd Y) pc = .ok (.ireturn, 1) ∧ ∃ ty, jm_rt Y = some ty ∧ narrow ty (.int x) = .int x
  | some (.long _) => decode (jm_cd Y) pc = .ok (.lreturn, 1) ∧ jm_rt Y = some .long
  | _ => False
def jm_Ev (Y : jm_Y) (ce sl pc : Nat) (L : List (Nat × Value)) (st : List Value) (n : Nat) (mr : jm_R) (σ : jm_M) (r : Option Value × Nat × jm_R × jm_M) : Prop :=
  ∀ (p : Program) (l : Launch) (e : Env) (s : State) (m : MethodId) (args : Array Value) (below : List Frame) (meth : Method) (c : Code) (D : va_G) (g : ClassId × ClassId × ClassId) (base b : Nat) (Q : State → Prop), jm_Cx Y D g base b p s m args meth c →
    (∀ (H : Heap) (locs : List Loc) (ls : Array Slot) (pc' : Nat), jm_Rep D g base r.2.1 r.2.2.1 r.2.2.2 H → va_S (jm_A base) s.heap H locs → jm_isR Y pc' r.1 → W p l e (jm_rm Y) s m args below meth c H locs (jm_rm Y).cells (jm_rm Y).slots Q (F0 m pc' ls r.1.toList)) →
    ∀ (H : Heap) (locs : List Loc) (ls : Array Slot), jm_Rep D g base n mr σ H → va_S (jm_A base) s.heap H locs → lv_has ls (jm_ml Y) (L.map (jm_tp base b)) → W p l e (jm_rm Y) s m args below meth c H locs ce sl Q (F0 m pc ls (st.map (jm_tr base b)))
/-- the machine at this place does what the pure program m says -/
def jm_Sim {α : Type} (Y : jm_Y) (ce sl pc : Nat) (L : List (Nat × Value)) (st : List Value) (n : Nat) (mr : jm_R) (σ : jm_M) (m : Option α) (ρ : α → Option Value × Nat × jm_R × jm_M) : Prop := ∀ a, m = some a → jm_Ev Y ce sl pc L st n mr σ (ρ a)
/-! pure programs' words -/
def jm_inb (j : Int32) (len : Nat) : Bool := decide (0 ≤ j.toInt) && decide (j.toInt < (len : Int))
def jm_si (σ : jm_M) (i k : Nat) (v : Int32) : jm_M := (fun a b => if a = i ∧ b = k then v else σ.1 a b, σ.2)
def jm_sl (σ : jm_M) (i k : Nat) (v : Int64) : jm_M := (σ.1, fun a b => if a = i ∧ b = k then v else σ.2 a b)
def jm_z (σ : jm_M) (i : Nat) : jm_M := (fun a b => if a = i then 0 else σ.1 a b, fun a b => if a = i then 0 else σ.2 a b)
def jm_sr (mr : jm_R) (i k q : Nat) : jm_R := fun a b => if a = i ∧ b = k then some q else mr a b
def jm_zr (mr : jm_R) (i : Nat) : jm_R := fun a b => if a = i then none else mr a b
def jm_ldi {α : Type} (σ : jm_M) (i len : Nat) (j : Int32) (f : Int32 → Option α) : Option α := if jm_inb j len = true then f (σ.1 i j.toNatClampNeg) else none
def jm_ldl {α : Type} (σ : jm_M) (i len : Nat) (j : Int32) (f : Int64 → Option α) : Option α := if jm_inb j len = true then f (σ.2 i j.toNatClampNeg) else none
def jm_sti {α : Type} (σ : jm_M) (i len : Nat) (j : Int32) (v : Int32) (f : jm_M → Option α) : Option α := if jm_inb j len = true then f (jm_si σ i j.toNatClampNeg v) else none
def jm_stl {α : Type} (σ : jm_M) (i len : Nat) (j : Int32) (v : Int64) (f : jm_M → Option α) : Option α := if jm_inb j len = true then f (jm_sl σ i j.toNatClampNeg v) else none
def jm_min (x y : Int32) : Int32 := if y < x then y else x
def jm_max (x y : Int32) : Int32 := if x < y then y else x
def jm_ev {α : Type} (x : jm_M) (f : jm_M → Option α) : Option α := f x
def jm_vi {α : Type} (x : Int32) (f : Int32 → Option α) : Option α := f x
def jm_vl {α : Type} (x : Int64) (f : Int64 → Option α) : Option α := f x
def jm_bd {α β : Type} (m : Option β) (f : β → Option α) : Option α := m.bind f
theorem jm_inb_vp {j : Int32} {len : Nat} (h : jm_inb j len = true) : vp_in j len := by
  unfold jm_inb at h
  rw [Bool.and_eq_true, decide_eq_true_eq, decide_eq_true_eq] at h
  exact vp_in_iff.mpr h
/-! the world -/
theorem jm_at {g : ClassId × ClassId × ClassId} {base n : Nat} {mr : jm_R} {σ : jm_M} {i : Nat} (h1 : 1 ≤ i) (h2 : i ≤ n) : (jm_ws g base n mr σ)[i - 1]? = some (base + i, jm_cell g base mr σ i) := by
  have e : i - 1 + 1 = i := Nat.sub_add_cancel h1
  rw [jm_ws, List.getElem?_map, List.getElem?_range (by omega), Option.map_some, e]
theorem jm_ws_get {g : ClassId × ClassId × ClassId} {base n : Nat} {mr : jm_R} {σ : jm_M} {k : Nat} {q : Nat × va_E} (h : (jm_ws g base n mr σ)[k]? = some q) : k < n ∧ q.1 = base + (k + 1) := by
  rw [jm_ws, List.getElem?_map] at h
  by_cases hk : k < n
  · rw [List.getElem?_range hk, Option.map_some] at h
    cases h
    exact ⟨hk, rfl⟩
  · rw [List.getElem?_eq_none (by rw [List.length_range]; omega)] at h
    cases h
theorem jm_D {g : ClassId × ClassId × ClassId} {base n : Nat} {mr : jm_R} {σ : jm_M} : va_D (jm_A base) (jm_ws g base n mr σ) := by
  refine ⟨fun i j p q hp hq e => ?_, fun k q hq => ?_⟩
  · have h1 := jm_ws_get hp
    have h2 := jm_ws_get hq
    omega
  · have h1 := jm_ws_get hq
    show base < q.1
    omega
theorem jm_ws_set {g : ClassId × ClassId × ClassId} {base n : Nat} {mr mr' : jm_R} {σ σ' : jm_M} {i : Nat} (h1 : 1 ≤ i) (hc : ∀ j, j ≠ i → jm_cell g base mr' σ' j = jm_cell g base mr σ j) : (jm_ws g base n mr σ).set (i - 1) (base + i, jm_cell g base mr' σ' i) = jm_ws g base n mr' σ' := by
  apply List.ext_getElem?
  intro k
  rw [List.getElem?_set]
  by_cases hk : i - 1 = k
  · subst hk
    have e : i - 1 + 1 = i := Nat.sub_add_cancel h1
    rw [if_pos rfl]
    by_cases hl : i - 1 < (jm_ws g base n mr σ).length
    · rw [if_pos hl]
      have hn : i - 1 < n := by simpa [jm_ws] using hl
      rw [jm_ws, List.getElem?_map, List.getElem?_range hn, Option.map_some, e]
    · rw [if_neg hl]
      have hn : ¬ i - 1 < n := by simpa [jm_ws] using hl
      rw [List.getElem?_eq_none (by simp [jm_ws]; omega)]
  · rw [if_neg hk, jm_ws, jm_ws, List.getElem?_map, List.getElem?_map]
    by_cases hn : k < n
    · rw [List.getElem?_range hn, Option.map_some, Option.map_some, hc (k + 1) (by omega)]
    · rw [List.getElem?_eq_none (by simp; omega)]
      rfl
theorem jm_cell_eq {g : ClassId × ClassId × ClassId} {base : Nat} {mr mr' : jm_R} {σ σ' : jm_M} {j : Nat} (h1 : σ'.1 j = σ.1 j) (h2 : σ'.2 j = σ.2 j) (h3 : mr' j = mr j) : jm_cell g base mr' σ' j = jm_cell g base mr σ j := by
  unfold jm_cell
  cases jm_sh j with
  | inl q =>
    unfold jm_ar
    simp only [h1, h2]
  | inr ci =>
    simp only [jm_fv, h1, h2, h3]
theorem jm_si_o {σ : jm_M} {i k j : Nat} {v : Int32} (h : j ≠ i) : (jm_si σ i k v).1 j = σ.1 j := by
  funext b
  simp [jm_si, h]
theorem jm_sl_o {σ : jm_M} {i k j : Nat} {v : Int64} (h : j ≠ i) : (jm_sl σ i k v).2 j = σ.2 j := by
  funext b
  simp [jm_sl, h]
theorem jm_sr_o {mr : jm_R} {i k j q : Nat} (h : j ≠ i) : jm_sr mr i k q j = mr j := by
  funext b
  simp [jm_sr, h]
theorem jm_si_i {σ : jm_M} {i k : Nat} {v : Int32} : (jm_si σ i k v).1 i = upd (σ.1 i) k v := by
  funext b
  by_cases h : b = k <;> simp [jm_si, upd, h]
theorem jm_sl_i {σ : jm_M} {i k : Nat} {v : Int64} : (jm_sl σ i k v).2 i = vp_updL (σ.2 i) k v := by
  funext b
  by_cases h : b = k <;> simp [jm_sl, vp_updL, h]
theorem jm_go {α : Type} {Y : jm_Y} {ce sl pc ce2 sl2 pc2 : Nat} {L L2 : List (Nat × Value)} {st st2 : List Value} {n n2 : Nat} {mr mr2 : jm_R} {σ σ2 : jm_M} {m : Option α} {ρ : α → Option Value × Nat × jm_R × jm_M}
    (step : ∀ (p : Program) (l : Launch) (e : Env) (s : State) (mm : MethodId) (args : Array Value) (below : List Frame) (meth : Method) (c : Code) (D : va_G) (g : ClassId × ClassId × ClassId) (base b : Nat) (Q : State → Prop), jm_Cx Y D g base b p s mm args meth c → ∀ (H : Heap) (locs : List Loc) (ls : Array Slot), jm_Rep D g base n mr σ H → va_S (jm_A base) s.heap H locs → lv_has ls (jm_ml Y) (L.map (jm_tp base b)) →
      (∀ (H2 : Heap) (locs2 : List Loc) (ls2 : Array Slot), jm_Rep D g base n2 mr2 σ2 H2 → va_S (jm_A base) s.heap H2 locs2 → lv_has ls2 (jm_ml Y) (L2.map (jm_tp base b)) → W p l e (jm_rm Y) s mm args below meth c H2 locs2 ce2 sl2 Q (F0 mm pc2 ls2 (st2.map (jm_tr base b)))) →
      W p l e (jm_rm Y) s mm args below meth c H locs ce sl Q (F0 mm pc ls (st.map (jm_tr base b))))
    (k : jm_Sim Y ce2 sl2 pc2 L2 st2 n2 mr2 σ2 m ρ) : jm_Sim Y ce sl pc L st n mr σ m ρ :=
  fun a ha p l e s mm args below meth c D g base b Q C hr H locs ls hP hS hl => step p l e s mm args below meth c D g base b Q C H locs ls hP hS hl (fun H2 locs2 ls2 hP2 hS2 hl2 => k a ha p l e s mm args below meth c D g base b Q C hr H2 locs2 ls2 hP2 hS2 hl2)
section JR
variable {α : Type} {Y : jm_Y} {ce sl pc : Nat} {L : List (Nat × Value)} {st : List Value} {n : Nat} {mr : jm_R} {σ : jm_M} {m : Option α} {ρ : α → Option Value × Nat × jm_R × jm_M}
theorem jm_iadd {x y : Int32} (hd : decode (jm_cd Y) pc = .ok (.iadd, 1)) (k : jm_Sim Y ce sl (pc + 1) L (.int (x + y) :: st) n mr σ m ρ) : jm_Sim Y ce sl pc L (.int y :: .int x :: st) n mr σ m ρ :=
  jm_go (fun _ _ _ _ _ _ _ _ _ _ _ base b _ C H locs ls hP hS hl kk => lv_iadd C.1 C.2.1 hd (kk H locs ls hP hS hl)) k
theorem jm_isub {x y : Int32} (hd : decode (jm_cd Y) pc = .ok (.isub, 1)) (k : jm_Sim Y ce sl (pc + 1) L (.int (x - y) :: st) n mr σ m ρ) : jm_Sim Y ce sl pc L (.int y :: .int x :: st) n mr σ m ρ :=
  jm_go (fun _ _ _ _ _ _ _ _ _ _ _ base b _ C H locs ls hP hS hl kk => lv_isub C.1 C.2.1 hd (kk H locs ls hP hS hl)) k
theorem jm_imul {x y : Int32} (hd : decode (jm_cd Y) pc = .ok (.imul, 1)) (k : jm_Sim Y ce sl (pc + 1) L (.int (x * y) :: st) n mr σ m ρ) : jm_Sim Y ce sl pc L (.int y :: .int x :: st) n mr σ m ρ :=
  jm_go (fun _ _ _ _ _ _ _ _ _ _ _ base b _ C H locs ls hP hS hl kk => lv_imul C.1 C.2.1 hd (kk H locs ls hP hS hl)) k
theorem jm_iand {x y : Int32} (hd : decode (jm_cd Y) pc = .ok (.iand, 1)) (k : jm_Sim Y ce sl (pc + 1) L (.int (x &&& y) :: st) n mr σ m ρ) : jm_Sim Y ce sl pc L (.int y :: .int x :: st) n mr σ m ρ :=
  jm_go (fun _ _ _ _ _ _ _ _ _ _ _ base b _ C H locs ls hP hS hl kk => lv_iand C.1 C.2.1 hd (kk H locs ls hP hS hl)) k
theorem jm_ior {x y : Int32} (hd : decode (jm_cd Y) pc = .ok (.ior, 1)) (k : jm_Sim Y ce sl (pc + 1) L (.int (x ||| y) :: st) n mr σ m ρ) : jm_Sim Y ce sl pc L (.int y :: .int x :: st) n mr σ m ρ :=
  jm_go (fun _ _ _ _ _ _ _ _ _ _ _ base b _ C H locs ls hP hS hl kk => lv_ior C.1 C.2.1 hd (kk H locs ls hP hS hl)) k
theorem jm_ixor {x y : Int32} (hd : decode (jm_cd Y) pc = .ok (.ixor, 1)) (k : jm_Sim Y ce sl (pc + 1) L (.int (x ^^^ y) :: st) n mr σ m ρ) : jm_Sim Y ce sl pc L (.int y :: .int x :: st) n mr σ m ρ :=
  jm_go (fun _ _ _ _ _ _ _ _ _ _ _ base b _ C H locs ls hP hS hl kk => lv_ixor C.1 C.2.1 hd (kk H locs ls hP hS hl)) k
theorem jm_ishl {x y : Int32} (hd : decode (jm_cd Y) pc = .ok (.ishl, 1)) (k : jm_Sim Y ce sl (pc + 1) L (.int (x <<< (y &&& 31)) :: st) n mr σ m ρ) : jm_Sim Y ce sl pc L (.int y :: .int x :: st) n mr σ m ρ :=
  jm_go (fun _ _ _ _ _ _ _ _ _ _ _ base b _ C H locs ls hP hS hl kk => lv_ishl C.1 C.2.1 hd (kk H locs ls hP hS hl)) k
theorem jm_ishr {x y : Int32} (hd : decode (jm_cd Y) pc = .ok (.ishr, 1)) (k : jm_Sim Y ce sl (pc + 1) L (.int (x >>> (y &&& 31)) :: st) n mr σ m ρ) : jm_Sim Y ce sl pc L (.int y :: .int x :: st) n mr σ m ρ :=
  jm_go (fun _ _ _ _ _ _ _ _ _ _ _ base b _ C H locs ls hP hS hl kk => lv_ishr C.1 C.2.1 hd (kk H locs ls hP hS hl)) k
theorem jm_iushr {x y : Int32} (hd : decode (jm_cd Y) pc = .ok (.iushr, 1)) (k : jm_Sim Y ce sl (pc + 1) L (.int ((x.toUInt32 >>> (y.toUInt32 &&& Int32.toUInt32 31)).toInt32) :: st) n mr σ m ρ) : jm_Sim Y ce sl pc L (.int y :: .int x :: st) n mr σ m ρ :=
  jm_go (fun _ _ _ _ _ _ _ _ _ _ _ base b _ C H locs ls hP hS hl kk => lv_iushr C.1 C.2.1 hd rfl (kk H locs ls hP hS hl)) k
theorem jm_idiv {x y : Int32} (hd : decode (jm_cd Y) pc = .ok (.idiv, 1)) (hne : ¬ y = 0) (k : jm_Sim Y ce sl (pc + 1) L (.int (x / y) :: st) n mr σ m ρ) : jm_Sim Y ce sl pc L (.int y :: .int x :: st) n mr σ m ρ :=
  jm_go (fun _ _ _ _ _ _ _ _ _ _ _ base b _ C H locs ls hP hS hl kk => lv_idiv C.1 C.2.1 hd hne (kk H locs ls hP hS hl)) k
theorem jm_land {x y : Int64} (hd : decode (jm_cd Y) pc = .ok (.land, 1)) (k : jm_Sim Y ce sl (pc + 1) L (.long (x &&& y) :: st) n mr σ m ρ) : jm_Sim Y ce sl pc L (.long y :: .long x :: st) n mr σ m ρ :=
  jm_go (fun _ _ _ _ _ _ _ _ _ _ _ base b _ C H locs ls hP hS hl kk => lv_land C.1 C.2.1 hd (kk H locs ls hP hS hl)) k
theorem jm_lor {x y : Int64} (hd : decode (jm_cd Y) pc = .ok (.lor, 1)) (k : jm_Sim Y ce sl (pc + 1) L (.long (x ||| y) :: st) n mr σ m ρ) : jm_Sim Y ce sl pc L (.long y :: .long x :: st) n mr σ m ρ :=
  jm_go (fun _ _ _ _ _ _ _ _ _ _ _ base b _ C H locs ls hP hS hl kk => lv_lor C.1 C.2.1 hd (kk H locs ls hP hS hl)) k
theorem jm_lxor {x y : Int64} (hd : decode (jm_cd Y) pc = .ok (.lxor, 1)) (k : jm_Sim Y ce sl (pc + 1) L (.long (x ^^^ y) :: st) n mr σ m ρ) : jm_Sim Y ce sl pc L (.long y :: .long x :: st) n mr σ m ρ :=
  jm_go (fun _ _ _ _ _ _ _ _ _ _ _ base b _ C H locs ls hP hS hl kk => lv_lxor C.1 C.2.1 hd (kk H locs ls hP hS hl)) k
theorem jm_lushr {x : Int64} {y : Int32} (hd : decode (jm_cd Y) pc = .ok (.lushr, 1)) (k : jm_Sim Y ce sl (pc + 1) L (.long ((x.toUInt64 >>> (y.toInt64.toUInt64 &&& Int64.toUInt64 63)).toInt64) :: st) n mr σ m ρ) : jm_Sim Y ce sl pc L (.int y :: .long x :: st) n mr σ m ρ :=
  jm_go (fun _ _ _ _ _ _ _ _ _ _ _ base b _ C H locs ls hP hS hl kk => lv_lushr C.1 C.2.1 hd rfl (kk H locs ls hP hS hl)) k
theorem jm_lshl {x : Int64} {y : Int32} (hd : decode (jm_cd Y) pc = .ok (.lshl, 1)) (k : jm_Sim Y ce sl (pc + 1) L (.long (x <<< (y.toInt64 &&& 63)) :: st) n mr σ m ρ) : jm_Sim Y ce sl pc L (.int y :: .long x :: st) n mr σ m ρ :=
  jm_go (fun _ _ _ _ _ _ _ _ _ _ _ base b _ C H locs ls hP hS hl kk => lv_lshl C.1 C.2.1 hd rfl (kk H locs ls hP hS hl)) k
theorem jm_lshr {x : Int64} {y : Int32} (hd : decode (jm_cd Y) pc = .ok (.lshr, 1)) (k : jm_Sim Y ce sl (pc + 1) L (.long (x >>> (y.toInt64 &&& 63)) :: st) n mr σ m ρ) : jm_Sim Y ce sl pc L (.int y :: .long x :: st) n mr σ m ρ :=
  jm_go (fun _ _ _ _ _ _ _ _ _ _ _ base b _ C H locs ls hP hS hl kk => lv_lshr C.1 C.2.1 hd rfl (kk H locs ls hP hS hl)) k
theorem jm_lcmp {x y : Int64} (hd : decode (jm_cd Y) pc = .ok (.lcmp, 1)) (k : jm_Sim Y ce sl (pc + 1) L (.int (lg_cmp x y) :: st) n mr σ m ρ) : jm_Sim Y ce sl pc L (.long y :: .long x :: st) n mr σ m ρ :=
  jm_go (fun _ _ _ _ _ _ _ _ _ _ _ base b _ C H locs ls hP hS hl kk => W.lcmp C.1 C.2.1 hd (kk H locs ls hP hS hl)) k
theorem jm_i2l {x : Int32} (hd : decode (jm_cd Y) pc = .ok (.i2l, 1)) (k : jm_Sim Y ce sl (pc + 1) L (.long x.toInt64 :: st) n mr σ m ρ) : jm_Sim Y ce sl pc L (.int x :: st) n mr σ m ρ :=
  jm_go (fun _ _ _ _ _ _ _ _ _ _ _ base b _ C H locs ls hP hS hl kk => lv_i2l C.1 C.2.1 hd rfl (kk H locs ls hP hS hl)) k
theorem jm_l2i {x : Int64} (hd : decode (jm_cd Y) pc = .ok (.l2i, 1)) (k : jm_Sim Y ce sl (pc + 1) L (.int x.toInt32 :: st) n mr σ m ρ) : jm_Sim Y ce sl pc L (.long x :: st) n mr σ m ρ :=
  jm_go (fun _ _ _ _ _ _ _ _ _ _ _ base b _ C H locs ls hP hS hl kk => lv_l2i C.1 C.2.1 hd rfl (kk H locs ls hP hS hl)) k
theorem jm_i2b {x : Int32} (hd : decode (jm_cd Y) pc = .ok (.i2b, 1)) (k : jm_Sim Y ce sl (pc + 1) L (.int x.toInt8.toInt32 :: st) n mr σ m ρ) : jm_Sim Y ce sl pc L (.int x :: st) n mr σ m ρ :=
  jm_go (fun _ _ _ _ _ _ _ _ _ _ _ base b _ C H locs ls hP hS hl kk => lv_i2b C.1 C.2.1 hd rfl (kk H locs ls hP hS hl)) k
theorem jm_cat (base b : Nat) (v : Value) : (jm_tr base b v).category = v.category := by
  cases v with
  | ref i => cases i <;> rfl
  | _ => rfl
theorem jm_dup {v : Value} (hd : decode (jm_cd Y) pc = .ok (.dup, 1)) (hv : v.category = 1) (k : jm_Sim Y ce sl (pc + 1) L (v :: v :: st) n mr σ m ρ) : jm_Sim Y ce sl pc L (v :: st) n mr σ m ρ :=
  jm_go (fun _ _ _ _ _ _ _ _ _ _ _ base b _ C H locs ls hP hS hl kk => lv_dup C.1 C.2.1 hd ((jm_cat base b v).trans hv) (kk H locs ls hP hS hl)) k
theorem jm_pop {v : Value} (hd : decode (jm_cd Y) pc = .ok (.pop, 1)) (hv : v.category = 1) (k : jm_Sim Y ce sl (pc + 1) L (st) n mr σ m ρ) : jm_Sim Y ce sl pc L (v :: st) n mr σ m ρ :=
  jm_go (fun _ _ _ _ _ _ _ _ _ _ _ base b _ C H locs ls hP hS hl kk => lv_pop C.1 C.2.1 hd ((jm_cat base b v).trans hv) (kk H locs ls hP hS hl)) k
theorem jm_dup2 {v w : Value} (hd : decode (jm_cd Y) pc = .ok (.dup2, 1)) (hv : v.category = 1) (hw : w.category = 1) (k : jm_Sim Y ce sl (pc + 1) L (v :: w :: v :: w :: st) n mr σ m ρ) : jm_Sim Y ce sl pc L (v :: w :: st) n mr σ m ρ :=
  jm_go (fun _ _ _ _ _ _ _ _ _ _ _ base b _ C H locs ls hP hS hl kk => lv_dup2_11 C.1 C.2.1 hd ((jm_cat base b v).trans hv) ((jm_cat base b w).trans hw) (kk H locs ls hP hS hl)) k
theorem jm_iconst {i : Int} {v : Int32} (hd : decode (jm_cd Y) pc = .ok (.iconst i, 1)) (hv : Int32.ofInt i = v) (k : jm_Sim Y ce sl (pc + 1) L (.int v :: st) n mr σ m ρ) : jm_Sim Y ce sl pc L (st) n mr σ m ρ :=
  jm_go (fun _ _ _ _ _ _ _ _ _ _ _ base b _ C H locs ls hP hS hl kk => lv_iconst C.1 C.2.1 hd hv (kk H locs ls hP hS hl)) k
theorem jm_bipush {i : Int} {v : Int32} (hd : decode (jm_cd Y) pc = .ok (.bipush i, 2)) (hv : (Int8.ofInt i).toInt32 = v) (k : jm_Sim Y ce sl (pc + 2) L (.int v :: st) n mr σ m ρ) : jm_Sim Y ce sl pc L (st) n mr σ m ρ :=
  jm_go (fun _ _ _ _ _ _ _ _ _ _ _ base b _ C H locs ls hP hS hl kk => lv_bipush C.1 C.2.1 hd hv (kk H locs ls hP hS hl)) k
theorem jm_sipush {i : Int} {v : Int32} (hd : decode (jm_cd Y) pc = .ok (.sipush i, 3)) (hv : (Int16.ofInt i).toInt32 = v) (k : jm_Sim Y ce sl (pc + 3) L (.int v :: st) n mr σ m ρ) : jm_Sim Y ce sl pc L (st) n mr σ m ρ :=
  jm_go (fun _ _ _ _ _ _ _ _ _ _ _ base b _ C H locs ls hP hS hl kk => lv_sipush C.1 C.2.1 hd hv (kk H locs ls hP hS hl)) k
theorem jm_lconst {i : Fin 2} {v : Int64} (hd : decode (jm_cd Y) pc = .ok (.lconst i, 1)) (hv : Int64.ofNat (i : Nat) = v) (k : jm_Sim Y ce sl (pc + 1) L (.long v :: st) n mr σ m ρ) : jm_Sim Y ce sl pc L (st) n mr σ m ρ :=
  jm_go (fun _ _ _ _ _ _ _ _ _ _ _ base b _ C H locs ls hP hS hl kk => lv_lconst C.1 C.2.1 hd hv (kk H locs ls hP hS hl)) k
theorem jm_ldc {i : Nat} {v : Int32} (hd : decode (jm_cd Y) pc = .ok (.ldc i, 2)) (hc : Cond.constant (jm_nm Y).cls i v ∈ jm_tbl) (k : jm_Sim Y ce sl (pc + 2) L (.int v :: st) n mr σ m ρ) : jm_Sim Y ce sl pc L (st) n mr σ m ρ :=
  jm_go (fun _ _ _ _ _ _ _ _ _ _ _ base b _ C H locs ls hP hS hl kk => lv_ldc C.1 C.2.1 C.2.2.2.1 (C.2.2.2.2.1 _ hc) hd (kk H locs ls hP hS hl)) k
theorem jm_ldcw {i : Nat} {v : Int32} (hd : decode (jm_cd Y) pc = .ok (.ldc_w i, 3)) (hc : Cond.constant (jm_nm Y).cls i v ∈ jm_tbl) (k : jm_Sim Y ce sl (pc + 3) L (.int v :: st) n mr σ m ρ) : jm_Sim Y ce sl pc L (st) n mr σ m ρ :=
  jm_go (fun _ _ _ _ _ _ _ _ _ _ _ base b _ C H locs ls hP hS hl kk => lv_ldcw C.1 C.2.1 C.2.2.2.1 (C.2.2.2.2.1 _ hc) hd (kk H locs ls hP hS hl)) k
theorem jm_ldc2 {i : Nat} {v : Int64} (hd : decode (jm_cd Y) pc = .ok (.ldc2_w i, 3)) (hc : Cond.constantLong (jm_nm Y).cls i v ∈ jm_tbl) (k : jm_Sim Y ce sl (pc + 3) L (.long v :: st) n mr σ m ρ) : jm_Sim Y ce sl pc L (st) n mr σ m ρ :=
  jm_go (fun _ _ _ _ _ _ _ _ _ _ _ base b _ C H locs ls hP hS hl kk => lv_ldc2 C.1 C.2.1 C.2.2.2.1 (C.2.2.2.2.1 _ hc) hd (kk H locs ls hP hS hl)) k
theorem jm_lat {ls : Array Slot} {nL base b : Nat} (h : lv_has ls nL (L.map (jm_tp base b))) {k i : Nat} {v : Value} (hk : L[k]? = some (i, v)) : ls[i]? = some (.val (jm_tr base b v)) :=
  lv_at h k (by rw [List.getElem?_map, hk]; rfl)
theorem jm_tr_ref (base b i : Nat) (h : 1 ≤ i) : jm_tr base b (.ref i) = .ref (base + i) := by
  cases i with
  | zero => omega
  | succ i => rfl
theorem jm_tr_any (base b i : Nat) : ∃ a, jm_tr base b (.ref i) = .ref a := by
  cases i with
  | zero => exact ⟨b, rfl⟩
  | succ i => exact ⟨base + (i + 1), rfl⟩
theorem jm_flt (p : Nat → Nat → Bool) (base b : Nat) (l : List (Nat × Value)) : (l.map (jm_tp base b)).filter (fun q => p q.1 q.2.category) = (l.filter (fun q => p q.1 q.2.category)).map (jm_tp base b) := by
  rw [List.filter_map]
  congr 1
  apply List.filter_congr
  intro q _
  show p q.1 (jm_tr base b q.2).category = p q.1 q.2.category
  rw [jm_cat]
theorem jm_iload {i q : Nat} {x : Int32} (hd : decode (jm_cd Y) pc = .ok (.iload i, 2)) (hq : L[q]? = some (i, .int x)) (k : jm_Sim Y ce sl (pc + 2) L (.int x :: st) n mr σ m ρ) : jm_Sim Y ce sl pc L (st) n mr σ m ρ :=
  jm_go (fun _ _ _ _ _ _ _ _ _ _ _ base b _ C H locs ls hP hS hl kk => lv_iload C.1 C.2.1 hd (jm_lat hl hq) (kk H locs ls hP hS hl)) k
theorem jm_iload_n {i : Fin 4} {q : Nat} {x : Int32} (hd : decode (jm_cd Y) pc = .ok (.iload_n i, 1)) (hq : L[q]? = some ((i : Nat), .int x)) (k : jm_Sim Y ce sl (pc + 1) L (.int x :: st) n mr σ m ρ) : jm_Sim Y ce sl pc L (st) n mr σ m ρ :=
  jm_go (fun _ _ _ _ _ _ _ _ _ _ _ base b _ C H locs ls hP hS hl kk => lv_iload_n C.1 C.2.1 hd rfl (jm_lat hl hq) (kk H locs ls hP hS hl)) k
theorem jm_lload {i q : Nat} {x : Int64} (hd : decode (jm_cd Y) pc = .ok (.lload i, 2)) (hq : L[q]? = some (i, .long x)) (k : jm_Sim Y ce sl (pc + 2) L (.long x :: st) n mr σ m ρ) : jm_Sim Y ce sl pc L (st) n mr σ m ρ :=
  jm_go (fun _ _ _ _ _ _ _ _ _ _ _ base b _ C H locs ls hP hS hl kk => lv_lload C.1 C.2.1 hd (jm_lat hl hq) (kk H locs ls hP hS hl)) k
theorem jm_lload_n {i : Fin 4} {q : Nat} {x : Int64} (hd : decode (jm_cd Y) pc = .ok (.lload_n i, 1)) (hq : L[q]? = some ((i : Nat), .long x)) (k : jm_Sim Y ce sl (pc + 1) L (.long x :: st) n mr σ m ρ) : jm_Sim Y ce sl pc L (st) n mr σ m ρ :=
  jm_go (fun _ _ _ _ _ _ _ _ _ _ _ base b _ C H locs ls hP hS hl kk => lv_lload_n C.1 C.2.1 hd rfl (jm_lat hl hq) (kk H locs ls hP hS hl)) k
theorem jm_aload {i q x : Nat} (hd : decode (jm_cd Y) pc = .ok (.aload i, 2)) (hq : L[q]? = some (i, .ref x)) (k : jm_Sim Y ce sl (pc + 2) L (.ref x :: st) n mr σ m ρ) : jm_Sim Y ce sl pc L (st) n mr σ m ρ :=
  jm_go (fun _ _ _ _ _ _ _ _ _ _ _ base b _ C H locs ls hP hS hl kk => by
  obtain ⟨a, ha⟩ := jm_tr_any base b x
  have h1 := jm_lat hl hq
  have h2 := kk H locs ls hP hS hl
  rw [List.map_cons, ha] at h2
  rw [ha] at h1
  exact lv_aload C.1 C.2.1 hd h1 h2) k
theorem jm_aload_n {i : Fin 4} {q x : Nat} (hd : decode (jm_cd Y) pc = .ok (.aload_n i, 1)) (hq : L[q]? = some ((i : Nat), .ref x)) (k : jm_Sim Y ce sl (pc + 1) L (.ref x :: st) n mr σ m ρ) : jm_Sim Y ce sl pc L (st) n mr σ m ρ :=
  jm_go (fun _ _ _ _ _ _ _ _ _ _ _ base b _ C H locs ls hP hS hl kk => by
  obtain ⟨a, ha⟩ := jm_tr_any base b x
  have h1 := jm_lat hl hq
  have h2 := kk H locs ls hP hS hl
  rw [List.map_cons, ha] at h2
  rw [ha] at h1
  exact lv_aload_n C.1 C.2.1 hd rfl h1 h2) k
theorem jm_istore {i : Nat} {x : Int32} {L2 : List (Nat × Value)} (hd : decode (jm_cd Y) pc = .ok (.istore i, 2)) (hn : i < jm_ml Y) (h2 : (i, Value.int x) :: L.filter (fun q => !(q.1 == i) && !(q.1 + 1 == i && q.2.category == 2)) = L2) (k : jm_Sim Y ce sl (pc + 2) L2 st n mr σ m ρ) : jm_Sim Y ce sl pc L (.int x :: st) n mr σ m ρ :=
  jm_go (fun _ _ _ _ _ _ _ _ _ _ _ base b _ C H locs ls hP hS hl kk => lv_istore C.1 C.2.1 hd hl hn (lv' := L2.map (jm_tp base b)) (by rw [← h2, List.map_cons]; exact congrArg _ (jm_flt (fun a c => !(a == i) && !(a + 1 == i && c == 2)) base b L)) (fun ls2 h9 => kk H locs ls2 hP hS h9)) k
theorem jm_istore_n {kk : Fin 4} {i : Nat} {x : Int32} {L2 : List (Nat × Value)} (hd : decode (jm_cd Y) pc = .ok (.istore_n kk, 1)) (hi : (kk : Nat) = i) (hn : i < jm_ml Y) (h2 : (i, Value.int x) :: L.filter (fun q => !(q.1 == i) && !(q.1 + 1 == i && q.2.category == 2)) = L2) (k : jm_Sim Y ce sl (pc + 1) L2 st n mr σ m ρ) : jm_Sim Y ce sl pc L (.int x :: st) n mr σ m ρ :=
  jm_go (fun _ _ _ _ _ _ _ _ _ _ _ base b _ C H locs ls hP hS hl kk => lv_istore_n C.1 C.2.1 hd hi hl hn (lv' := L2.map (jm_tp base b)) (by rw [← h2, List.map_cons]; exact congrArg _ (jm_flt (fun a c => !(a == i) && !(a + 1 == i && c == 2)) base b L)) (fun ls2 h9 => kk H locs ls2 hP hS h9)) k
theorem jm_lstore {i : Nat} {x : Int64} {L2 : List (Nat × Value)} (hd : decode (jm_cd Y) pc = .ok (.lstore i, 2)) (hn : i + 1 < jm_ml Y) (h2 : (i, Value.long x) :: L.filter (fun q => !(q.1 == i) && (!(q.1 == i + 1) && !(q.1 + 1 == i && q.2.category == 2))) = L2) (k : jm_Sim Y ce sl (pc + 2) L2 st n mr σ m ρ) : jm_Sim Y ce sl pc L (.long x :: st) n mr σ m ρ :=
  jm_go (fun _ _ _ _ _ _ _ _ _ _ _ base b _ C H locs ls hP hS hl kk => lv_lstore C.1 C.2.1 hd hl hn (lv' := L2.map (jm_tp base b)) (by rw [← h2, List.map_cons]; exact congrArg _ (jm_flt (fun a c => !(a == i) && (!(a == i + 1) && !(a + 1 == i && c == 2))) base b L)) (fun ls2 h9 => kk H locs ls2 hP hS h9)) k
theorem jm_lstore_n {kk : Fin 4} {i : Nat} {x : Int64} {L2 : List (Nat × Value)} (hd : decode (jm_cd Y) pc = .ok (.lstore_n kk, 1)) (hi : (kk : Nat) = i) (hn : i + 1 < jm_ml Y) (h2 : (i, Value.long x) :: L.filter (fun q => !(q.1 == i) && (!(q.1 == i + 1) && !(q.1 + 1 == i && q.2.category == 2))) = L2) (k : jm_Sim Y ce sl (pc + 1) L2 st n mr σ m ρ) : jm_Sim Y ce sl pc L (.long x :: st) n mr σ m ρ :=
  jm_go (fun _ _ _ _ _ _ _ _ _ _ _ base b _ C H locs ls hP hS hl kk => lv_lstore_n C.1 C.2.1 hd hi hl hn (lv' := L2.map (jm_tp base b)) (by rw [← h2, List.map_cons]; exact congrArg _ (jm_flt (fun a c => !(a == i) && (!(a == i + 1) && !(a + 1 == i && c == 2))) base b L)) (fun ls2 h9 => kk H locs ls2 hP hS h9)) k
theorem jm_astore {i x : Nat} {L2 : List (Nat × Value)} (hd : decode (jm_cd Y) pc = .ok (.astore i, 2)) (hn : i < jm_ml Y) (h2 : (i, Value.ref x) :: L.filter (fun q => !(q.1 == i) && !(q.1 + 1 == i && q.2.category == 2)) = L2) (k : jm_Sim Y ce sl (pc + 2) L2 st n mr σ m ρ) : jm_Sim Y ce sl pc L (.ref x :: st) n mr σ m ρ :=
  jm_go (fun _ _ _ _ _ _ _ _ _ _ _ base b _ C H locs ls hP hS hl kk => by
  obtain ⟨a, ha⟩ := jm_tr_any base b x
  rw [List.map_cons, ha]
  exact lv_astore C.1 C.2.1 hd hl hn (lv' := L2.map (jm_tp base b)) (by rw [← h2, List.map_cons]; exact congr (congrArg List.cons (show (i, Value.ref a) = (i, jm_tr base b (.ref x)) by rw [ha])) (jm_flt (fun a c => !(a == i) && !(a + 1 == i && c == 2)) base b L)) (fun ls2 h9 => kk H locs ls2 hP hS h9)) k
theorem jm_astore_n {kk : Fin 4} {i x : Nat} {L2 : List (Nat × Value)} (hd : decode (jm_cd Y) pc = .ok (.astore_n kk, 1)) (hi : (kk : Nat) = i) (hn : i < jm_ml Y) (h2 : (i, Value.ref x) :: L.filter (fun q => !(q.1 == i) && !(q.1 + 1 == i && q.2.category == 2)) = L2) (k : jm_Sim Y ce sl (pc + 1) L2 st n mr σ m ρ) : jm_Sim Y ce sl pc L (.ref x :: st) n mr σ m ρ :=
  jm_go (fun _ _ _ _ _ _ _ _ _ _ _ base b _ C H locs ls hP hS hl kk => by
  obtain ⟨a, ha⟩ := jm_tr_any base b x
  rw [List.map_cons, ha]
  exact lv_astore_n C.1 C.2.1 hd hi hl hn (lv' := L2.map (jm_tp base b)) (by rw [← h2, List.map_cons]; exact congr (congrArg List.cons (show (i, Value.ref a) = (i, jm_tr base b (.ref x)) by rw [ha])) (jm_flt (fun a c => !(a == i) && !(a + 1 == i && c == 2)) base b L)) (fun ls2 h9 => kk H locs ls2 hP hS h9)) k
theorem jm_iinc {i q : Nat} {d : Int} {x v : Int32} {L2 : List (Nat × Value)} (hd : decode (jm_cd Y) pc = .ok (.iinc i d, 3)) (hq : L[q]? = some (i, .int x)) (hv : Int32.ofInt d = v) (hn : i < jm_ml Y) (h2 : (i, Value.int (x + v)) :: L.filter (fun q => !(q.1 == i) && !(q.1 + 1 == i && q.2.category == 2)) = L2) (k : jm_Sim Y ce sl (pc + 3) L2 st n mr σ m ρ) : jm_Sim Y ce sl pc L st n mr σ m ρ :=
  jm_go (fun _ _ _ _ _ _ _ _ _ _ _ base b _ C H locs ls hP hS hl kk => lv_iinc C.1 C.2.1 (k := q) hd hl (by rw [List.getElem?_map, hq]; rfl) (congrArg (fun z => x + z) hv) hn (lv' := L2.map (jm_tp base b)) (by rw [← h2, List.map_cons]; exact congrArg _ (jm_flt (fun a c => !(a == i) && !(a + 1 == i && c == 2)) base b L)) (fun ls2 h9 => kk H locs ls2 hP hS h9)) k
theorem jm_goto {off : Int} {tgt : Nat} (hd : decode (jm_cd Y) pc = .ok (.goto off, 3)) (ht : (pc : Int) + off = (tgt : Int)) (k : jm_Sim Y ce sl tgt L st n mr σ m ρ) : jm_Sim Y ce sl pc L st n mr σ m ρ :=
  jm_go (fun _ _ _ _ _ _ _ _ _ _ _ base b _ C H locs ls hP hS hl kk => lv_goto C.1 C.2.1 hd ht (kk H locs ls hP hS hl)) k
theorem jm_sub {L2 : List (Nat × Value)} (ks : List Nat) (h : lv_pick L ks = L2) (k : jm_Sim Y ce sl pc L2 st n mr σ m ρ) : jm_Sim Y ce sl pc L st n mr σ m ρ :=
  jm_go (fun _ _ _ _ _ _ _ _ _ _ _ base b _ C H locs ls hP hS hl kk => kk H locs ls hP hS (lv_sub hl ks (by
    rw [← h, lv_pick, lv_pick, List.map_filterMap]
    apply congrFun; apply congrArg; funext k
    rw [List.getElem?_map]))) k
theorem jm_ite {p : Prop} {inst : Decidable p} {m1 m2 : Option α} {Y : jm_Y} {ce sl pc pc1 pc2 : Nat} {L : List (Nat × Value)} {st st1 : List Value}
    (step : ∀ (pp : Program) (l : Launch) (e : Env) (s : State) (mm : MethodId) (args : Array Value) (below : List Frame) (meth : Method) (c : Code) (D : va_G) (g : ClassId × ClassId × ClassId) (base b : Nat) (Q : State → Prop), jm_Cx Y D g base b pp s mm args meth c → ∀ (H : Heap) (locs : List Loc) (ls : Array Slot),
      (p → W pp l e (jm_rm Y) s mm args below meth c H locs ce sl Q (F0 mm pc1 ls (st1.map (jm_tr base b)))) → (¬ p → W pp l e (jm_rm Y) s mm args below meth c H locs ce sl Q (F0 mm pc2 ls (st1.map (jm_tr base b)))) →
      W pp l e (jm_rm Y) s mm args below meth c H locs ce sl Q (F0 mm pc ls (st.map (jm_tr base b))))
    (k1 : jm_Sim Y ce sl pc1 L st1 n mr σ m1 ρ) (k2 : jm_Sim Y ce sl pc2 L st1 n mr σ m2 ρ) : jm_Sim Y ce sl pc L st n mr σ (@ite _ p inst m1 m2) ρ := by
  intro a ha pp l e s mm args below meth c D g base b Q C hr H locs ls hP hS hl
  refine step pp l e s mm args below meth c D g base b Q C H locs ls (fun h => ?_) (fun h => ?_)
  · rw [if_pos h] at ha
    exact k1 a ha pp l e s mm args below meth c D g base b Q C hr H locs ls hP hS hl
  · rw [if_neg h] at ha
    exact k2 a ha pp l e s mm args below meth c D g base b Q C hr H locs ls hP hS hl
theorem jm_if_eq {x : Int32} {off : Int} {tgt : Nat} {m1 m2 : Option α} {inst : Decidable (x = 0)} (hd : decode (jm_cd Y) pc = .ok (.ifCond .eq off, 3)) (ht : (pc : Int) + off = (tgt : Int)) (k1 : jm_Sim Y ce sl tgt L st n mr σ m1 ρ) (k2 : jm_Sim Y ce sl (pc + 3) L st n mr σ m2 ρ) : jm_Sim Y ce sl pc L (.int x :: st) n mr σ (@ite _ (x = 0) inst m1 m2) ρ :=
  jm_ite (fun _ _ _ _ _ _ _ _ _ _ _ _ _ _ C _ _ _ a b => lv_if_eq C.1 C.2.1 hd ht a b) k1 k2
theorem jm_if_lt {x : Int32} {off : Int} {tgt : Nat} {m1 m2 : Option α} {inst : Decidable (x < 0)} (hd : decode (jm_cd Y) pc = .ok (.ifCond .lt off, 3)) (ht : (pc : Int) + off = (tgt : Int)) (k1 : jm_Sim Y ce sl tgt L st n mr σ m1 ρ) (k2 : jm_Sim Y ce sl (pc + 3) L st n mr σ m2 ρ) : jm_Sim Y ce sl pc L (.int x :: st) n mr σ (@ite _ (x < 0) inst m1 m2) ρ :=
  jm_ite (fun _ _ _ _ _ _ _ _ _ _ _ _ _ _ C _ _ _ a b => lv_if_lt C.1 C.2.1 hd ht a b) k1 k2
theorem jm_if_ge {x : Int32} {off : Int} {tgt : Nat} {m1 m2 : Option α} {inst : Decidable (0 ≤ x)} (hd : decode (jm_cd Y) pc = .ok (.ifCond .ge off, 3)) (ht : (pc : Int) + off = (tgt : Int)) (k1 : jm_Sim Y ce sl tgt L st n mr σ m1 ρ) (k2 : jm_Sim Y ce sl (pc + 3) L st n mr σ m2 ρ) : jm_Sim Y ce sl pc L (.int x :: st) n mr σ (@ite _ (0 ≤ x) inst m1 m2) ρ :=
  jm_ite (fun _ _ _ _ _ _ _ _ _ _ _ _ _ _ C _ _ _ a b => lv_if_ge C.1 C.2.1 hd ht a b) k1 k2
theorem jm_if_gt {x : Int32} {off : Int} {tgt : Nat} {m1 m2 : Option α} {inst : Decidable (0 < x)} (hd : decode (jm_cd Y) pc = .ok (.ifCond .gt off, 3)) (ht : (pc : Int) + off = (tgt : Int)) (k1 : jm_Sim Y ce sl tgt L st n mr σ m1 ρ) (k2 : jm_Sim Y ce sl (pc + 3) L st n mr σ m2 ρ) : jm_Sim Y ce sl pc L (.int x :: st) n mr σ (@ite _ (0 < x) inst m1 m2) ρ :=
  jm_ite (fun _ _ _ _ _ _ _ _ _ _ _ _ _ _ C _ _ _ a b => lv_if_gt C.1 C.2.1 hd ht a b) k1 k2
theorem jm_if_le {x : Int32} {off : Int} {tgt : Nat} {m1 m2 : Option α} {inst : Decidable (x ≤ 0)} (hd : decode (jm_cd Y) pc = .ok (.ifCond .le off, 3)) (ht : (pc : Int) + off = (tgt : Int)) (k1 : jm_Sim Y ce sl tgt L st n mr σ m1 ρ) (k2 : jm_Sim Y ce sl (pc + 3) L st n mr σ m2 ρ) : jm_Sim Y ce sl pc L (.int x :: st) n mr σ (@ite _ (x ≤ 0) inst m1 m2) ρ :=
  jm_ite (fun _ _ _ _ _ _ _ _ _ _ _ _ _ _ C _ _ _ a b => lv_if_le C.1 C.2.1 hd ht a b) k1 k2
theorem jm_if_ne {x : Int32} {off : Int} {tgt : Nat} {m1 m2 : Option α} {inst : Decidable (x = 0)} (hd : decode (jm_cd Y) pc = .ok (.ifCond .ne off, 3)) (ht : (pc : Int) + off = (tgt : Int)) (k1 : jm_Sim Y ce sl (pc + 3) L st n mr σ m1 ρ) (k2 : jm_Sim Y ce sl tgt L st n mr σ m2 ρ) : jm_Sim Y ce sl pc L (.int x :: st) n mr σ (@ite _ (x = 0) inst m1 m2) ρ :=
  jm_ite (fun _ _ _ _ _ _ _ _ _ _ _ _ _ _ C _ _ _ a b => lv_if_ne C.1 C.2.1 hd ht b a) k1 k2
theorem jm_icmp_eq {x y : Int32} {off : Int} {tgt : Nat} {m1 m2 : Option α} {inst : Decidable (x = y)} (hd : decode (jm_cd Y) pc = .ok (.if_icmp .eq off, 3)) (ht : (pc : Int) + off = (tgt : Int)) (k1 : jm_Sim Y ce sl tgt L st n mr σ m1 ρ) (k2 : jm_Sim Y ce sl (pc + 3) L st n mr σ m2 ρ) : jm_Sim Y ce sl pc L (.int y :: .int x :: st) n mr σ (@ite _ (x = y) inst m1 m2) ρ :=
  jm_ite (fun _ _ _ _ _ _ _ _ _ _ _ _ _ _ C _ _ _ a b => lv_icmp_eq C.1 C.2.1 hd ht a b) k1 k2
theorem jm_icmp_lt {x y : Int32} {off : Int} {tgt : Nat} {m1 m2 : Option α} {inst : Decidable (x < y)} (hd : decode (jm_cd Y) pc = .ok (.if_icmp .lt off, 3)) (ht : (pc : Int) + off = (tgt : Int)) (k1 : jm_Sim Y ce sl tgt L st n mr σ m1 ρ) (k2 : jm_Sim Y ce sl (pc + 3) L st n mr σ m2 ρ) : jm_Sim Y ce sl pc L (.int y :: .int x :: st) n mr σ (@ite _ (x < y) inst m1 m2) ρ :=
  jm_ite (fun _ _ _ _ _ _ _ _ _ _ _ _ _ _ C _ _ _ a b => lv_icmp_lt C.1 C.2.1 hd ht a b) k1 k2
theorem jm_icmp_ge {x y : Int32} {off : Int} {tgt : Nat} {m1 m2 : Option α} {inst : Decidable (y ≤ x)} (hd : decode (jm_cd Y) pc = .ok (.if_icmp .ge off, 3)) (ht : (pc : Int) + off = (tgt : Int)) (k1 : jm_Sim Y ce sl tgt L st n mr σ m1 ρ) (k2 : jm_Sim Y ce sl (pc + 3) L st n mr σ m2 ρ) : jm_Sim Y ce sl pc L (.int y :: .int x :: st) n mr σ (@ite _ (y ≤ x) inst m1 m2) ρ :=
  jm_ite (fun _ _ _ _ _ _ _ _ _ _ _ _ _ _ C _ _ _ a b => lv_icmp_ge C.1 C.2.1 hd ht a b) k1 k2
theorem jm_icmp_gt {x y : Int32} {off : Int} {tgt : Nat} {m1 m2 : Option α} {inst : Decidable (y < x)} (hd : decode (jm_cd Y) pc = .ok (.if_icmp .gt off, 3)) (ht : (pc : Int) + off = (tgt : Int)) (k1 : jm_Sim Y ce sl tgt L st n mr σ m1 ρ) (k2 : jm_Sim Y ce sl (pc + 3) L st n mr σ m2 ρ) : jm_Sim Y ce sl pc L (.int y :: .int x :: st) n mr σ (@ite _ (y < x) inst m1 m2) ρ :=
  jm_ite (fun _ _ _ _ _ _ _ _ _ _ _ _ _ _ C _ _ _ a b => lv_icmp_gt C.1 C.2.1 hd ht a b) k1 k2
theorem jm_icmp_le {x y : Int32} {off : Int} {tgt : Nat} {m1 m2 : Option α} {inst : Decidable (x ≤ y)} (hd : decode (jm_cd Y) pc = .ok (.if_icmp .le off, 3)) (ht : (pc : Int) + off = (tgt : Int)) (k1 : jm_Sim Y ce sl tgt L st n mr σ m1 ρ) (k2 : jm_Sim Y ce sl (pc + 3) L st n mr σ m2 ρ) : jm_Sim Y ce sl pc L (.int y :: .int x :: st) n mr σ (@ite _ (x ≤ y) inst m1 m2) ρ :=
  jm_ite (fun _ _ _ _ _ _ _ _ _ _ _ _ _ _ C _ _ _ a b => lv_icmp_le C.1 C.2.1 hd ht a b) k1 k2
theorem jm_icmp_ne {x y : Int32} {off : Int} {tgt : Nat} {m1 m2 : Option α} {inst : Decidable (x = y)} (hd : decode (jm_cd Y) pc = .ok (.if_icmp .ne off, 3)) (ht : (pc : Int) + off = (tgt : Int)) (k1 : jm_Sim Y ce sl (pc + 3) L st n mr σ m1 ρ) (k2 : jm_Sim Y ce sl tgt L st n mr σ m2 ρ) : jm_Sim Y ce sl pc L (.int y :: .int x :: st) n mr σ (@ite _ (x = y) inst m1 m2) ρ :=
  jm_ite (fun _ _ _ _ _ _ _ _ _ _ _ _ _ _ C _ _ _ a b => lv_icmp_ne C.1 C.2.1 hd ht b a) k1 k2
theorem jm_hA {base : Nat} {s : State} (h : base < s.heap.size) : ∀ q : Nat, s.heap.size ≤ q → jm_A base q := fun _ h2 => Nat.lt_of_lt_of_le h h2
/-! fields -/
def jm_fo (own : String) (idx ci k : Nat) (C : String) (T : u_T) (N : Nat) : Prop := (∀ w ∈ u_ws C T N, w ∈ jm_tbl) ∧ vwCl[ci]? = some (C, T, N) ∧ k < N ∧ Cond.fieldLink own idx (T k).1 (T k).2.1 (T k).2.2.1 ∈ jm_tbl
def jm_fp (own : String) (idx ci k : Nat) (C : String) (T : u_T) (N : Nat) (fin : Bool) (ty : FieldType) : Prop := jm_fo own idx ci k C T N ∧ (∃ ty0 : Nat → FieldType, ∀ k, k < N → parseFieldDescriptor (T k).2.2.1 = some (ty0 k)) ∧ (∀ a, a < N → ∀ b, b < N → a ≠ b → (T a).2.1 ≠ (T b).2.1) ∧ (T k).2.2.2 = fin ∧ parseFieldDescriptor (T k).2.2.1 = some ty ∧ (fin = true → (T k).1 = own)
theorem jm_ob {g : ClassId × ClassId × ClassId} {base : Nat} {i ci : Nat} (hs : jm_sh i = .inr ci) : jm_cell g base mr σ i = .inr (ci, (jm_fts ci).mapIdx (fun k ty => jm_fv base mr σ i k ty)) := by
  rw [jm_cell, hs]
theorem jm_get {i ci k idx N : Nat} {C : String} {T : u_T} {ty : FieldType} {v : Value} (hd : decode (jm_cd Y) pc = .ok (.getfield idx, 3)) (F : jm_fo (jm_nm Y).cls idx ci k C T N) (hs : jm_sh i = .inr ci) (h1 : 1 ≤ i) (h2 : i ≤ n) (ht : (jm_fts ci)[k]? = some ty) (hv : ∀ base b, jm_fv base mr σ i k ty = jm_tr base b v) (kk : jm_Sim Y ce sl (pc + 3) L (v :: st) n mr σ m ρ) : jm_Sim Y ce sl pc L (.ref i :: st) n mr σ m ρ := by
  refine jm_go (fun _ _ _ _ _ _ _ _ _ D g base b _ C H locs ls hP hS hl k9 => ?_) kk
  have h9 := k9 H locs ls hP hS hl
  rw [List.map_cons, jm_tr_ref base b i h1]
  refine va_get C.1 C.2.1 C.2.2.2.2.1 F.1 C.2.2.2.1 C.2.2.2.2.2.1 hP.2 (i - 1) ((jm_at h1 h2).trans (by rw [jm_ob hs])) F.2.1 k F.2.2.1 (C.2.2.2.2.1 _ F.2.2.2) (fun _ h => h) (v := jm_tr base b v) ?_ hd h9
  rw [List.getElem?_mapIdx, ht, Option.map_some, hv base b]
theorem jm_gi {i ci k idx N : Nat} {C : String} {T : u_T} {ty : FieldType} (hd : decode (jm_cd Y) pc = .ok (.getfield idx, 3)) (F : jm_fo (jm_nm Y).cls idx ci k C T N) (hs : jm_sh i = .inr ci) (h1 : 1 ≤ i) (h2 : i ≤ n) (ht : (jm_fts ci)[k]? = some ty) (hv : ∀ base, jm_fv base mr σ i k ty = .int (σ.1 i k)) (kk : jm_Sim Y ce sl (pc + 3) L (.int (σ.1 i k) :: st) n mr σ m ρ) : jm_Sim Y ce sl pc L (.ref i :: st) n mr σ m ρ :=
  jm_get (v := .int (σ.1 i k)) hd F hs h1 h2 ht (fun base _ => hv base) kk
theorem jm_gl {i ci k idx N : Nat} {C : String} {T : u_T} (hd : decode (jm_cd Y) pc = .ok (.getfield idx, 3)) (F : jm_fo (jm_nm Y).cls idx ci k C T N) (hs : jm_sh i = .inr ci) (h1 : 1 ≤ i) (h2 : i ≤ n) (ht : (jm_fts ci)[k]? = some .long) (kk : jm_Sim Y ce sl (pc + 3) L (.long (σ.2 i k) :: st) n mr σ m ρ) : jm_Sim Y ce sl pc L (.ref i :: st) n mr σ m ρ :=
  jm_get (v := .long (σ.2 i k)) hd F hs h1 h2 ht (fun _ _ => rfl) kk
theorem jm_gr {i ci k idx N q : Nat} {C : String} {T : u_T} {ty : FieldType} (hd : decode (jm_cd Y) pc = .ok (.getfield idx, 3)) (F : jm_fo (jm_nm Y).cls idx ci k C T N) (hs : jm_sh i = .inr ci) (h1 : 1 ≤ i) (h2 : i ≤ n) (ht : (jm_fts ci)[k]? = some ty) (hv : ∀ base, jm_fv base mr σ i k ty = jm_rv base (mr i k)) (hq : mr i k = some q) (hq1 : 1 ≤ q) (kk : jm_Sim Y ce sl (pc + 3) L (.ref q :: st) n mr σ m ρ) : jm_Sim Y ce sl pc L (.ref i :: st) n mr σ m ρ :=
  jm_get (v := .ref q) hd F hs h1 h2 ht (fun base b => by rw [hv, hq, jm_tr_ref base b q hq1]; rfl) kk
theorem jm_set_fs {base : Nat} {mr mr' : jm_R} {σ σ' : jm_M} {i k : Nat} {v : Value} {fts : List FieldType} {ty : FieldType} (ht : fts[k]? = some ty) (hv : jm_fv base mr' σ' i k ty = v) (ho : ∀ (k' : Nat) (ty' : FieldType), k' ≠ k → jm_fv base mr' σ' i k' ty' = jm_fv base mr σ i k' ty') : (fts.mapIdx (fun k ty => jm_fv base mr σ i k ty)).set k v = fts.mapIdx (fun k ty => jm_fv base mr' σ' i k ty) := by
  apply List.ext_getElem?
  intro j
  rw [List.getElem?_set, List.getElem?_mapIdx, List.getElem?_mapIdx]
  by_cases hj : k = j
  · subst hj
    have hl : k < fts.length := (List.getElem?_eq_some_iff.mp ht).1
    rw [if_pos rfl, if_pos (by rw [List.length_mapIdx]; exact hl), ht, Option.map_some, hv]
  · rw [if_neg hj]
    cases fts[j]? with
    | none => rfl
    | some t => rw [Option.map_some, Option.map_some, ho j t (fun e => hj e.symm)]
section JP
variable {p : Program} {l : Launch} {e : Env} {R : Room} {s : State} {mm : MethodId} {args : Array Value} {below : List Frame} {meth : Method} {c : Code} {H : Heap} {locs : List Loc} {cells slots : Nat} {Q : State → Prop} {cc : ByteArray} {pc : Nat} {ls : Array Slot} {rest : List Value} {D : va_G} {A : Nat → Prop} {a : Nat} {ws : va_W} {H0 : Heap}
/-- a field is written: the heap keeps its size -/
theorem jm_wput (hexec : p.tables.exec = Jvm.exec) (hb : c.code = cc) {own C : String} {T : u_T} {N ci index : Nat} {tys : List (ClassId × FieldType)} (hts : ∀ w ∈ jm_tbl, w.before args s = true) {k : Nat} {fin : Bool} {ty : FieldType} (F : jm_fp own index ci k C T N fin ty) (hown : s.vm.findClass own = some mm.cls) (hK : va_K D vwCl tys s) (hP : va_P D vwCl ws H) (hD : va_D A ws) (hS0 : va_S A H0 H locs) (q0 : Nat) {fs : List Value} (he : ws[q0]? = some (a, .inr (ci, fs))) (hini : fin = true → meth.name = "<init>") {v : Value} (hn : narrow ty v = v) (hfit : fits ty v = true) (hl : k < fs.length)
    (hdg : decode cc pc = .ok (.putfield index, 3)) (kk : ∀ (H1 : Heap) (locs1 : List Loc), H1.size = H.size → va_P D vwCl (ws.set q0 (a, .inr (ci, fs.set k v))) H1 → va_S A H0 H1 locs1 → W p l e R s mm args below meth c H1 locs1 cells slots Q (F0 mm (pc + 3) ls rest)) : W p l e R s mm args below meth c H locs cells slots Q (F0 mm pc ls (v :: .ref a :: rest)) := by
  obtain ⟨⟨hin, hc, hk, hlk⟩, ⟨ty0, hty⟩, hnm, hfin, hd, hdecl⟩ := F
  have hap := va_apart (own := own) hts hin ty0 hty hnm hK hc
  obtain ⟨r, h1, cell, q1, q2, q3, q4⟩ := hP q0 _ he
  have hr : r = (C, T, N) := Option.some.inj (h1.symm.trans hc)
  subst hr
  obtain ⟨hS, hfc, kC, hkC, hkind⟩ := hK.1 ci _ hc
  obtain ⟨cf, kf, fi, f, hi, hsl⟩ := hS k hk
  have hlay := hts _ (hin _ (u_in_lay hk))
  have hst := (u_facts hfc hkC (u_lays hts hin hk) hi).1
  have hlink := hts _ hlk
  cases fin with
  | false =>
    unfold u_lay at hlay
    rw [if_neg (by rw [hfin]; decide)] at hlay
    have h6 := u_store hfc hkC hkind hlay hi hd hn hfit
    refine W.putK hexec hb (f := f) ⟨hown, hlink, ⟨_, _, _, hi⟩, hst⟩ (by rw [q2]; exact h6) q1 q3 (by rw [hsl]; exact k2_hasslot (q4 k hk)) rfl rfl hdg fun H' e1 e2 e3 => ?_
    rw [hsl] at e1 ⊢
    exact kk H' _ e2 (hP.set hD he ⟨_, hc, t_OB.to (V := updV (vp_V fs) k v) ⟨_, e1, q2, q3, t_set q4 hap hk v⟩ (fun j _ => vp_updV_set hl v j)⟩ e3) (hS0.put e2 e3 (hD.2 q0 _ he))
  | true =>
    unfold u_lay at hlay
    rw [if_pos hfin] at hlay
    have hcf : mm.cls = cf := by
      obtain ⟨_, _, c', _, _, _, -, -, hf', -, -, -, hown2, -⟩ := Cond.laysFinal_spec hlay
      have e1 : c' = cf := by have := hi.symm.trans hf'; simp at this; exact this.1.symm
      rw [hdecl rfl] at hown2
      rw [← e1]; exact Option.some.inj (hown.symm.trans hown2)
    have h6 := u_fits hfc hkC hkind (Or.inr hlay) hi hd hn hfit
    refine W.putFinK hexec hb hown hlink hi hst hcf (hini rfl) (by rw [q2]; exact h6) q1 q3 (by rw [hsl]; exact k2_hasslot (q4 k hk)) rfl rfl hdg fun H' e1 e2 e3 => ?_
    rw [hsl] at e1 ⊢
    exact kk H' _ e2 (hP.set hD he ⟨_, hc, t_OB.to (V := updV (vp_V fs) k v) ⟨_, e1, q2, q3, t_set q4 hap hk v⟩ (fun j _ => vp_updV_set hl v j)⟩ e3) (hS0.put e2 e3 (hD.2 q0 _ he))
end JP
theorem jm_put {i ci k idx N : Nat} {C : String} {T : u_T} {fin : Bool} {ty : FieldType} {v : Value} {mr' : jm_R} {σ' : jm_M} (hd : decode (jm_cd Y) pc = .ok (.putfield idx, 3)) (F : jm_fp (jm_nm Y).cls idx ci k C T N fin ty) (hini : fin = true → (jm_nm Y).name = "<init>") (hs : jm_sh i = .inr ci) (h1 : 1 ≤ i) (h2 : i ≤ n) (ht : (jm_fts ci)[k]? = some ty) (hn : ∀ base b, narrow ty (jm_tr base b v) = jm_tr base b v) (hf : ∀ base b, fits ty (jm_tr base b v) = true)
    (hv : ∀ base b, jm_fv base mr' σ' i k ty = jm_tr base b v) (ho : ∀ (base k' : Nat) (ty' : FieldType), k' ≠ k → jm_fv base mr' σ' i k' ty' = jm_fv base mr σ i k' ty') (hc : ∀ j, j ≠ i → σ'.1 j = σ.1 j ∧ σ'.2 j = σ.2 j ∧ mr' j = mr j)
    (kk : jm_Sim Y ce sl (pc + 3) L st n mr' σ' m ρ) : jm_Sim Y ce sl pc L (v :: .ref i :: st) n mr σ m ρ := by
  refine jm_go (fun _ _ _ _ _ _ _ _ _ D g base b _ Cx H locs ls hP hS hl k9 => ?_) kk
  rw [List.map_cons, List.map_cons, jm_tr_ref base b i h1]
  refine jm_wput Cx.1 Cx.2.1 Cx.2.2.2.2.1 F Cx.2.2.2.1 Cx.2.2.2.2.2.1 hP.2 jm_D hS (i - 1) ((jm_at h1 h2).trans (by rw [jm_ob hs])) (fun h => Cx.2.2.2.2.2.2.2.2.1 (hini h)) (hn base b) (hf base b) (by rw [List.length_mapIdx]; exact (List.getElem?_eq_some_iff.mp ht).1) hd (fun H1 locs1 hz hP1 hS1 => k9 H1 locs1 ls ⟨hz.trans hP.1, ?_⟩ hS1 hl)
  rw [jm_set_fs ht (hv base b) (ho base), ← jm_ob (g := g) (mr := mr') (σ := σ') hs, jm_ws_set h1 (fun j hj => jm_cell_eq (hc j hj).1 (hc j hj).2.1 (hc j hj).2.2)] at hP1
  exact hP1
theorem jm_fv_i {base : Nat} {i k : Nat} {x : Int32} (k' : Nat) (ty' : FieldType) (h : k' ≠ k) : jm_fv base mr (jm_si σ i k x) i k' ty' = jm_fv base mr σ i k' ty' := by
  have e : (jm_si σ i k x).1 i k' = σ.1 i k' := by simp [jm_si, h]
  have e2 : (jm_si σ i k x).2 = σ.2 := rfl
  unfold jm_fv
  simp only [e, e2]
theorem jm_fv_l {base : Nat} {i k : Nat} {x : Int64} (k' : Nat) (ty' : FieldType) (h : k' ≠ k) : jm_fv base mr (jm_sl σ i k x) i k' ty' = jm_fv base mr σ i k' ty' := by
  have e : (jm_sl σ i k x).2 i k' = σ.2 i k' := by simp [jm_sl, h]
  have e2 : (jm_sl σ i k x).1 = σ.1 := rfl
  unfold jm_fv
  simp only [e, e2]
theorem jm_fv_r {base : Nat} {i k q : Nat} (k' : Nat) (ty' : FieldType) (h : k' ≠ k) : jm_fv base (jm_sr mr i k q) σ i k' ty' = jm_fv base mr σ i k' ty' := by
  have e : jm_sr mr i k q i k' = mr i k' := by simp [jm_sr, h]
  unfold jm_fv
  simp only [e]
/-- a whole number (or truth) into a field -/
theorem jm_pi {f : jm_M → Option α} {i ci k idx N : Nat} {C : String} {T : u_T} {ty : FieldType} {x : Int32} (hd : decode (jm_cd Y) pc = .ok (.putfield idx, 3)) (F : jm_fp (jm_nm Y).cls idx ci k C T N false ty) (hs : jm_sh i = .inr ci) (h1 : 1 ≤ i) (h2 : i ≤ n) (ht : (jm_fts ci)[k]? = some ty) (hn : narrow ty (.int x) = .int x) (hf : fits ty (.int x) = true) (hty : ∀ base (mr : jm_R) (σ : jm_M), jm_fv base mr σ i k ty = .int (σ.1 i k))
    (kk : ∀ σ1, jm_Sim Y ce sl (pc + 3) L st n mr σ1 (f σ1) ρ) : jm_Sim Y ce sl pc L (.int x :: .ref i :: st) n mr σ (jm_ev (jm_si σ i k x) f) ρ :=
  jm_put (v := .int x) hd F (fun h => by cases h) hs h1 h2 ht (fun _ _ => hn) (fun _ _ => hf) (fun base b => by rw [hty]; show Value.int (if i = i ∧ k = k then x else _) = Value.int x; rw [if_pos ⟨rfl, rfl⟩]) (fun _ k' ty' h => jm_fv_i k' ty' h) (fun j hj => ⟨jm_si_o hj, rfl, rfl⟩) (kk _)
theorem jm_pl {f : jm_M → Option α} {i ci k idx N : Nat} {C : String} {T : u_T} {x : Int64} (hd : decode (jm_cd Y) pc = .ok (.putfield idx, 3)) (F : jm_fp (jm_nm Y).cls idx ci k C T N false .long) (hs : jm_sh i = .inr ci) (h1 : 1 ≤ i) (h2 : i ≤ n) (ht : (jm_fts ci)[k]? = some .long)
    (kk : ∀ σ1, jm_Sim Y ce sl (pc + 3) L st n mr σ1 (f σ1) ρ) : jm_Sim Y ce sl pc L (.long x :: .ref i :: st) n mr σ (jm_ev (jm_sl σ i k x) f) ρ :=
  jm_put (v := .long x) hd F (fun h => by cases h) hs h1 h2 ht (fun _ _ => rfl) (fun _ _ => rfl) (fun base b => by show Value.long (if i = i ∧ k = k then x else _) = Value.long x; rw [if_pos ⟨rfl, rfl⟩]) (fun _ k' ty' h => jm_fv_l k' ty' h) (fun j hj => ⟨rfl, jm_sl_o hj, rfl⟩) (kk _)
/-- a reference into a field -/
theorem jm_pr {i ci k idx N q : Nat} {C : String} {T : u_T} {fin : Bool} {ty : FieldType} (hd : decode (jm_cd Y) pc = .ok (.putfield idx, 3)) (F : jm_fp (jm_nm Y).cls idx ci k C T N fin ty) (hini : fin = true → (jm_nm Y).name = "<init>") (hs : jm_sh i = .inr ci) (h1 : 1 ≤ i) (h2 : i ≤ n) (hq1 : 1 ≤ q) (ht : (jm_fts ci)[k]? = some ty) (hn : ∀ a, narrow ty (.ref a) = .ref a) (hf : ∀ a, fits ty (.ref a) = true) (hty : ∀ base (mr : jm_R) (σ : jm_M), jm_fv base mr σ i k ty = jm_rv base (mr i k))
    (kk : jm_Sim Y ce sl (pc + 3) L st n (jm_sr mr i k q) σ m ρ) : jm_Sim Y ce sl pc L (.ref q :: .ref i :: st) n mr σ m ρ :=
  jm_put (v := .ref q) hd F hini hs h1 h2 ht (fun base b => by rw [jm_tr_ref base b q hq1]; exact hn _) (fun base b => by rw [jm_tr_ref base b q hq1]; exact hf _) (fun base b => by rw [hty, jm_tr_ref base b q hq1, show jm_sr mr i k q i k = some q by simp [jm_sr]]; rfl) (fun _ k' ty' h => jm_fv_r k' ty' h) (fun j hj => ⟨rfl, rfl, jm_sr_o hj⟩) kk
/-! arrays -/
theorem jm_gd {b : Bool} {x : Option α} (h : ∀ a, b = true → x = some a → jm_Ev Y ce sl pc L st n mr σ (ρ a)) : jm_Sim Y ce sl pc L st n mr σ (if b = true then x else none) ρ := by
  intro a ha
  by_cases hb : b = true
  · rw [if_pos hb] at ha
    exact h a hb ha
  · rw [if_neg hb] at ha
    cases ha
theorem jm_aci {g : ClassId × ClassId × ClassId} {base i len : Nat} (hs : jm_sh i = .inl (.int, len)) : jm_cell g base mr σ i = .inl (g.1, len, .inl (σ.1 i)) := by
  rw [jm_cell, hs]; rfl
theorem jm_acb {g : ClassId × ClassId × ClassId} {base i len : Nat} (hs : jm_sh i = .inl (.byte, len)) : jm_cell g base mr σ i = .inl (g.2.1, len, .inl (σ.1 i)) := by
  rw [jm_cell, hs]; rfl
theorem jm_acl {g : ClassId × ClassId × ClassId} {base i len : Nat} (hs : jm_sh i = .inl (.long, len)) : jm_cell g base mr σ i = .inl (g.2.2, len, .inr (.inl (σ.2 i))) := by
  rw [jm_cell, hs]; rfl
theorem jm_iald {f : Int32 → Option α} {i len : Nat} {j : Int32} (hd : decode (jm_cd Y) pc = .ok (.iaload, 1)) (hs : jm_sh i = .inl (.int, len)) (h1 : 1 ≤ i) (h2 : i ≤ n) (kk : ∀ x, jm_Sim Y ce sl (pc + 1) L (.int x :: st) n mr σ (f x) ρ) : jm_Sim Y ce sl pc L (.int j :: .ref i :: st) n mr σ (jm_ldi σ i len j f) ρ := by
  refine jm_gd (fun a hb ha => ?_)
  refine jm_go (fun _ _ _ _ _ _ _ _ _ D g base b _ Cx H locs ls hP hS hl k9 => ?_) (kk (σ.1 i j.toNatClampNeg)) a ha
  rw [List.map_cons, List.map_cons, jm_tr_ref base b i h1]
  exact va_iald Cx.1 Cx.2.1 Cx.2.2.2.2.2.1 hP.2 (i - 1) 0 ((jm_at h1 h2).trans (by rw [jm_aci hs])) rfl (jm_inb_vp hb) hd (k9 H locs ls hP hS hl)
theorem jm_bald {f : Int32 → Option α} {i len : Nat} {j : Int32} (hd : decode (jm_cd Y) pc = .ok (.baload, 1)) (hs : jm_sh i = .inl (.byte, len)) (h1 : 1 ≤ i) (h2 : i ≤ n) (kk : ∀ x, jm_Sim Y ce sl (pc + 1) L (.int x :: st) n mr σ (f x) ρ) : jm_Sim Y ce sl pc L (.int j :: .ref i :: st) n mr σ (jm_ldi σ i len j f) ρ := by
  refine jm_gd (fun a hb ha => ?_)
  refine jm_go (fun _ _ _ _ _ _ _ _ _ D g base b _ Cx H locs ls hP hS hl k9 => ?_) (kk (σ.1 i j.toNatClampNeg)) a ha
  rw [List.map_cons, List.map_cons, jm_tr_ref base b i h1]
  exact va_bald Cx.1 Cx.2.1 Cx.2.2.2.2.2.1 hP.2 (i - 1) 1 ((jm_at h1 h2).trans (by rw [jm_acb hs])) rfl (jm_inb_vp hb) hd (k9 H locs ls hP hS hl)
theorem jm_lald {f : Int64 → Option α} {i len : Nat} {j : Int32} (hd : decode (jm_cd Y) pc = .ok (.laload, 1)) (hs : jm_sh i = .inl (.long, len)) (h1 : 1 ≤ i) (h2 : i ≤ n) (kk : ∀ x, jm_Sim Y ce sl (pc + 1) L (.long x :: st) n mr σ (f x) ρ) : jm_Sim Y ce sl pc L (.int j :: .ref i :: st) n mr σ (jm_ldl σ i len j f) ρ := by
  refine jm_gd (fun a hb ha => ?_)
  refine jm_go (fun _ _ _ _ _ _ _ _ _ D g base b _ Cx H locs ls hP hS hl k9 => ?_) (kk (σ.2 i j.toNatClampNeg)) a ha
  rw [List.map_cons, List.map_cons, jm_tr_ref base b i h1]
  exact va_lald Cx.1 Cx.2.1 Cx.2.2.2.2.2.1 hP.2 (i - 1) 2 ((jm_at h1 h2).trans (by rw [jm_acl hs])) rfl (jm_inb_vp hb) hd (k9 H locs ls hP hS hl)
theorem jm_iast {f : jm_M → Option α} {i len : Nat} {j x : Int32} (hd : decode (jm_cd Y) pc = .ok (.iastore, 1)) (hs : jm_sh i = .inl (.int, len)) (h1 : 1 ≤ i) (h2 : i ≤ n) (kk : ∀ σ1, jm_Sim Y ce sl (pc + 1) L st n mr σ1 (f σ1) ρ) : jm_Sim Y ce sl pc L (.int x :: .int j :: .ref i :: st) n mr σ (jm_sti σ i len j x f) ρ := by
  refine jm_gd (fun a hb ha => ?_)
  refine jm_go (fun _ _ _ _ _ _ _ _ _ D g base b _ Cx H locs ls hP hS hl k9 => ?_) (kk (jm_si σ i j.toNatClampNeg x)) a ha
  rw [List.map_cons, List.map_cons, List.map_cons, jm_tr_ref base b i h1]
  have hat := (jm_at (g := g) (base := base) (mr := mr) (σ := σ) h1 h2).trans (by rw [jm_aci hs])
  have hin := jm_inb_vp hb
  refine W.iast Cx.1 Cx.2.1 (hP.2 (i - 1) _ hat) ((Cx.2.2.2.2.2.1.2 0 (g.1, .int) rfl).1 len (fun j => .int (σ.1 i j))) (fun q => by cases q) (by show ¬ (j < 0 ∨ (arrV _ _ _).slots.size ≤ _); rw [arrV_size]; exact hin) rfl rfl hd fun H1 e9 z oq => ?_
  refine k9 H1 _ ls ⟨z.trans hP.1, ?_⟩ (hS.put z oq (jm_D.2 (i - 1) _ hat)) hl
  rw [← jm_ws_set (g := g) (base := base) (n := n) (mr := mr) (σ := σ) h1 (fun j hj => jm_cell_eq (jm_si_o hj) rfl rfl), jm_aci hs, jm_si_i]
  refine hP.2.set jm_D hat ?_ oq
  show H1[base + i]? = some (vp_cell _ _)
  rw [e9, vp_cell_i, vp_cell_i, arrV_store]
  congr 2
  funext q
  by_cases hq : q = j.toNatClampNeg
  · subst hq
    simp [updV, upd]
  · simp [updV, upd, hq]
theorem jm_bast {f : jm_M → Option α} {i len : Nat} {j x : Int32} (hd : decode (jm_cd Y) pc = .ok (.bastore, 1)) (hs : jm_sh i = .inl (.byte, len)) (h1 : 1 ≤ i) (h2 : i ≤ n) (kk : ∀ σ1, jm_Sim Y ce sl (pc + 1) L st n mr σ1 (f σ1) ρ) : jm_Sim Y ce sl pc L (.int x :: .int j :: .ref i :: st) n mr σ (jm_sti σ i len j (vp_nar .byte x) f) ρ := by
  refine jm_gd (fun a hb ha => ?_)
  refine jm_go (fun _ _ _ _ _ _ _ _ _ D g base b _ Cx H locs ls hP hS hl k9 => ?_) (kk (jm_si σ i j.toNatClampNeg (vp_nar .byte x))) a ha
  rw [List.map_cons, List.map_cons, List.map_cons, jm_tr_ref base b i h1]
  have hat := (jm_at (g := g) (base := base) (mr := mr) (σ := σ) h1 h2).trans (by rw [jm_acb hs])
  have hin := jm_inb_vp hb
  refine W.bast Cx.1 Cx.2.1 (hP.2 (i - 1) _ hat) ((Cx.2.2.2.2.2.1.2 1 (g.2.1, .byte) rfl).1 len (fun j => .int (σ.1 i j))) (fun q => by cases q) (by show ¬ (j < 0 ∨ (arrV _ _ _).slots.size ≤ _); rw [arrV_size]; exact hin) rfl rfl hd fun H1 e9 z oq => ?_
  refine k9 H1 _ ls ⟨z.trans hP.1, ?_⟩ (hS.put z oq (jm_D.2 (i - 1) _ hat)) hl
  rw [← jm_ws_set (g := g) (base := base) (n := n) (mr := mr) (σ := σ) h1 (fun j hj => jm_cell_eq (jm_si_o hj) rfl rfl), jm_acb hs, jm_si_i]
  refine hP.2.set jm_D hat ?_ oq
  show H1[base + i]? = some (vp_cell _ _)
  rw [e9, vp_cell_i, vp_cell_i, arrV_store]
  congr 2
  funext q
  by_cases hq : q = j.toNatClampNeg
  · subst hq
    simp [updV, upd, vp_nar, narrow]
  · simp [updV, upd, hq]
theorem jm_last {f : jm_M → Option α} {i len : Nat} {j : Int32} {x : Int64} (hd : decode (jm_cd Y) pc = .ok (.lastore, 1)) (hs : jm_sh i = .inl (.long, len)) (h1 : 1 ≤ i) (h2 : i ≤ n) (kk : ∀ σ1, jm_Sim Y ce sl (pc + 1) L st n mr σ1 (f σ1) ρ) : jm_Sim Y ce sl pc L (.long x :: .int j :: .ref i :: st) n mr σ (jm_stl σ i len j x f) ρ := by
  refine jm_gd (fun a hb ha => ?_)
  refine jm_go (fun _ _ _ _ _ _ _ _ _ D g base b _ Cx H locs ls hP hS hl k9 => ?_) (kk (jm_sl σ i j.toNatClampNeg x)) a ha
  rw [List.map_cons, List.map_cons, List.map_cons, jm_tr_ref base b i h1]
  have hat := (jm_at (g := g) (base := base) (mr := mr) (σ := σ) h1 h2).trans (by rw [jm_acl hs])
  have hin := jm_inb_vp hb
  refine W.last Cx.1 Cx.2.1 (hP.2 (i - 1) _ hat) ((Cx.2.2.2.2.2.1.2 2 (g.2.2, .long) rfl).1 len (fun j => .long (σ.2 i j))) (fun q => by cases q) (by show ¬ (j < 0 ∨ (arrV _ _ _).slots.size ≤ _); rw [arrV_size]; exact hin) rfl rfl hd fun H1 e9 z oq => ?_
  refine k9 H1 _ ls ⟨z.trans hP.1, ?_⟩ (hS.put z oq (jm_D.2 (i - 1) _ hat)) hl
  rw [← jm_ws_set (g := g) (base := base) (n := n) (mr := mr) (mr' := mr) (σ := σ) (σ' := jm_sl σ i j.toNatClampNeg x) h1 (fun j hj => jm_cell_eq rfl (jm_sl_o hj) rfl), jm_acl hs, jm_sl_i]
  refine hP.2.set jm_D hat ?_ oq
  show H1[base + i]? = some (vp_cell _ _)
  rw [e9, vp_cell_l, vp_cell_l, arrV_store]
  congr 2
  funext q
  by_cases hq : q = j.toNatClampNeg
  · subst hq
    simp [updV, vp_updL]
  · simp [updV, vp_updL, hq]
/-! going back -/
theorem jm_iret {a : α} {x : Int32} {ty : FieldType} (hd : decode (jm_cd Y) pc = .ok (.ireturn, 1)) (hrt : jm_rt Y = some ty) (hn : narrow ty (.int x) = .int x) (hce : ce = (jm_rm Y).cells) (hsl : sl = (jm_rm Y).slots) (ha : ρ a = (some (.int x), n, mr, σ)) : jm_Sim Y ce sl pc L [.int x] n mr σ (some a) ρ := by
  intro a' ha' p l e s mm args below meth c D g base b Q C hr H locs ls hP hS hl
  cases ha'
  rw [ha] at hr
  subst hce; subst hsl
  exact hr H locs ls pc hP hS ⟨hd, ty, hrt, hn⟩
theorem jm_vret {a : α} (hd : decode (jm_cd Y) pc = .ok (.return_, 1)) (hrt : jm_rt Y = none) (hce : ce = (jm_rm Y).cells) (hsl : sl = (jm_rm Y).slots) (ha : ρ a = (none, n, mr, σ)) : jm_Sim Y ce sl pc L [] n mr σ (some a) ρ := by
  intro a' ha' p l e s mm args below meth c D g base b Q C hr H locs ls hP hS hl
  cases ha'
  rw [ha] at hr
  subst hce; subst hsl
  exact hr H locs ls pc hP hS ⟨hd, hrt⟩
theorem jm_lret {a : α} {x : Int64} (hd : decode (jm_cd Y) pc = .ok (.lreturn, 1)) (hrt : jm_rt Y = some .long) (hce : ce = (jm_rm Y).cells) (hsl : sl = (jm_rm Y).slots) (ha : ρ a = (some (.long x), n, mr, σ)) : jm_Sim Y ce sl pc L [.long x] n mr σ (some a) ρ := by
  intro a' ha' p l e s mm args below meth c D g base b Q C hr H locs ls hP hS hl
  cases ha'
  rw [ha] at hr
  subst hce; subst hsl
  exact hr H locs ls pc hP hS ⟨hd, hrt⟩
def jm_gb {α : Type} (x : Int32) (f : Option α) : Option α := if (decide (x = 0) || decide (x = 1)) = true then f else none
theorem jm_zret {a : α} {x : Int32} (hd : decode (jm_cd Y) pc = .ok (.ireturn, 1)) (hrt : jm_rt Y = some .boolean) (hce : ce = (jm_rm Y).cells) (hsl : sl = (jm_rm Y).slots) (ha : ρ a = (some (.int x), n, mr, σ)) : jm_Sim Y ce sl pc L [.int x] n mr σ (jm_gb x (some a)) ρ := by
  refine jm_gd (fun a' hb h => ?_)
  rw [Bool.or_eq_true, decide_eq_true_eq, decide_eq_true_eq] at hb
  refine jm_iret hd hrt ?_ hce hsl ha a' h
  rcases hb with rfl | rfl <;> decide
/-! calls -/
theorem jm_lvargs (base b : Nat) : ∀ (vs : List Value) (i : Nat), lv_args i (vs.map (jm_tr base b)) = (lv_args i vs).map (jm_tp base b)
  | [], _ => rfl
  | v :: vs, i => by
    show (i, jm_tr base b v) :: lv_args (if (jm_tr base b v).category = 2 then i + 2 else i + 1) (vs.map (jm_tr base b)) = (i, jm_tr base b v) :: (lv_args (if v.category = 2 then i + 2 else i + 1) vs).map (jm_tp base b)
    rw [jm_cat, jm_lvargs base b vs]
theorem jm_slen (base b : Nat) (vs : List Value) : (lg_sl (vs.map (jm_tr base b))).length = (lg_sl vs).length := by
  induction vs with
  | nil => rfl
  | cons v vs ih =>
    have h1 : ∀ (w : Value) (ws : List Value), (lg_sl (w :: ws)).length = (if w.category = 2 then 2 else 1) + (lg_sl ws).length := by
      intro w ws
      show (List.flatMap _ (w :: ws)).length = _
      rw [List.flatMap_cons, List.length_append]
      by_cases h : w.category = 2
      · simp only [h, if_true]; rfl
      · simp only [h, if_false]; rfl
    rw [List.map_cons, h1, h1, jm_cat, ih]
def jm_B (D : va_G) (g : ClassId × ClassId × ClassId) (base n : Nat) (mr : jm_R) (σ : jm_M) (U : State) : Prop := jm_Rep D g base n mr σ U.heap ∧ va_K D vwCl (jm_ty g) U ∧ base < U.heap.size ∧ jm_N U
def jm_Qc (D : va_G) (g : ClassId × ClassId × ClassId) (base : Nat) (r : Option Value × Nat × jm_R × jm_M) (st : State) (o : Outcome) (t : State) : Prop := o = .returned r.1 ∧ jm_Rep D g base r.2.1 r.2.2.1 r.2.2.2 t.heap ∧ va_F (jm_A base) st t
def jm_w (Y : jm_Y) : List Cond := Cond.code (jm_nm Y) (jm_cd Y) (jm_ml Y) (jm_rt Y) :: jm_tbl
def jm_ok (Y : jm_Y) (np : Nat) : Prop := plainName (jm_nm Y).cls = true ∧ jm_sc Y = none ∧ Cond.code (jm_nm Y) (jm_cd Y) (jm_ml Y) (jm_rt Y) ∈ jm_tbl ∧ Cond.initialized (jm_nm Y).cls ∈ jm_tbl ∧ ((jm_nm Y).cls ≠ "java/lang/invoke/MethodHandle" ∧ (jm_nm Y).cls ≠ "java/lang/invoke/VarHandle" ∧ (parseMethodDescriptor (jm_nm Y).desc).map (fun d => d.parameters.length) = some np)
theorem jm_met {β : Type} {Y : jm_Y} {avs : List Value} {np : Nat} {m' : Option β} {ρ' : β → Option Value × Nat × jm_R × jm_M} (h : jm_Sim Y 0 0 0 (lv_args 0 avs) [] n mr σ m' ρ') {a : β} (ha : m' = some a) (ho : jm_ok Y np) (hlen : (lg_sl avs).length ≤ jm_ml Y) (l : Launch) (D : va_G) (g : ClassId × ClassId × ClassId) (base b : Nat) :
    Met l (jm_nm Y) (jm_w Y) (jm_rm Y) (va_Pc (avs.map (jm_tr base b)) (jm_B D g base n mr σ)) (fun _ => jm_Qc D g base (ρ' a)) (jm_rm Y).cells (jm_rm Y).slots (jm_A base) := by
  refine Met.ofW (cc := jm_cd Y) (maxL := jm_ml Y) (ret := jm_rt Y) ho.1 rfl ?_
  intro p e s mm args below meth c s₁ B hml hv
  obtain ⟨rfl, hP, hK, hbs, hN⟩ := hv
  have hts := atoms_spec (ws := jm_w Y) B.pre
  have hlocks := B.notSynchronized
  have hl := lv_entry (avs.map (jm_tr base b)) (n := jm_ml Y) (by rw [jm_slen]; exact hlen)
  rw [jm_lvargs] at hl
  rw [lg_entry_eq]
  generalize (lg_sl (avs.map (jm_tr base b)) ++ List.replicate (jm_ml Y - (lg_sl (avs.map (jm_tr base b))).length) Slot.unset).toArray = ls at hl ⊢
  refine h a ha p l e s mm _ below meth c D g base b _ ⟨B.exec, B.bytes, hml, findClass_of_methodNamed B.named, fun w hw => hts w (List.mem_cons_of_mem _ hw), hK, hbs, hlocks, fun hn => (name_of_methodNamed B.named B.method).1.trans hn, fun q hq => (by rw [ho.2.1] at hq; cases hq), hN⟩ ?_ s.heap [] ls hP va_S.rf hl
  intro H locs ls2 pc' hP2 hS2 hR
  have hq : ∀ v, v = (ρ' a).1 → ∀ t : State, t.heap = H → s.WarmedH t.vm → jm_Qc D g base (ρ' a) s (.returned v) t := fun v hv t ht _ => ⟨by rw [hv], by rw [ht]; exact hP2, hS2.F ht⟩
  generalize hv : (ρ' a).1 = v at hR hq ⊢
  match v, hR with
  | none, hR => exact W.vret B.exec B.bytes (B.returns.trans hR.2) (fun t ht hW => hq none rfl t ht hW) hS2.2.2 hR.1
  | some (.int x), hR =>
    obtain ⟨hd, ty, hrt, hn⟩ := hR
    exact W.zret B.exec B.bytes (B.returns.trans hrt) hn (fun t ht hW => hq _ rfl t ht hW) hS2.2.2 hd
  | some (.long x), hR => exact W.lret B.exec B.bytes (B.returns.trans hR.2) (fun t ht hW => hq _ rfl t ht hW) hS2.2.2 hR.1
theorem jm_blind {D : va_G} {g : ClassId × ClassId × ClassId} {base : Nat} {av : List Value} : FrameBlind (va_Pc av (jm_B D g base n mr σ)) := by
  intro a U gg mk q
  obtain ⟨q0, qP, qK, qb, qN⟩ := q
  exact ⟨q0, qP, va_K.moved (u := U) (U := U.calling gg mk a) (Vm.Alike.refl U.vm) qK, qb, fun z hz => va_Nw.same rfl rfl (qN z hz)⟩
theorem jm_preU {D : va_G} {g : ClassId × ClassId × ClassId} {base : Nat} {s U : State} {H : Heap} {locs : List Loc} {av : List Value} (hP : jm_Rep D g base n mr σ H) (hK : va_K D vwCl (jm_ty g) s) (hbs : base < s.heap.size) (hS : va_S (jm_A base) s.heap H locs) (hN : jm_N s) (hU : U.heap = H) (hW : s.WarmedH U.vm) : va_Pc av (jm_B D g base n mr σ) av.toArray U :=
  ⟨rfl, by rw [hU]; exact hP, va_K.moved hW.alike hK, by rw [hU]; exact Nat.lt_of_lt_of_le hbs hS.1, fun z hz => va_Nw.warmM hW (hN z hz)⟩
theorem jm_cats (base b : Nat) (rest : List Value) : ((rest.map (jm_tr base b)).map fun v => v.category) = rest.map fun v => v.category := by
  rw [List.map_map]
  apply List.map_congr_left
  intro v _
  exact jm_cat base b v
theorem jm_call {β : Type} {Y' : jm_Y} {rest : List Value} {m' : Option β} {ρ' : β → Option Value × Nat × jm_R × jm_M} {f : β → Option α}
    (run : ∀ a, m' = some a → ∀ (p : Program) (l : Launch) (e : Env) (s : State) (mm : MethodId) (args : Array Value) (below : List Frame) (meth : Method) (c : Code) (D : va_G) (g : ClassId × ClassId × ClassId) (base b : Nat), jm_Cx Y D g base b p s mm args meth c → ∀ (H : Heap) (locs : List Loc) (ls : Array Slot), jm_Rep D g base n mr σ H → va_S (jm_A base) s.heap H locs → lv_has ls (jm_ml Y) (L.map (jm_tp base b)) →
      va_Run p l e (jm_rm Y) s mm args below meth c H locs ce sl (jm_rm Y').cells (jm_rm Y').slots (F0 mm pc ls (st.map (jm_tr base b))) (rest.map (jm_tr base b)) (jm_Qc D g base (ρ' a)) (jm_A base))
    (hv : ∀ a (base b : Nat), (ρ' a).1.toList.map (jm_tr base b) = (ρ' a).1.toList)
    (k : ∀ a, jm_Sim Y (ce + (jm_rm Y').cells) (sl + (jm_rm Y').slots) (pc + 3) L ((ρ' a).1.toList ++ rest) (ρ' a).2.1 (ρ' a).2.2.1 (ρ' a).2.2.2 (f a) ρ) : jm_Sim Y ce sl pc L st n mr σ (jm_bd m' f) ρ := by
  intro a ha p l e s mm args below meth c D g base b Q C hr H locs ls hP hS hl
  obtain ⟨a', h1, h2⟩ : ∃ a', m' = some a' ∧ f a' = some a := by
    cases hm : m' with
    | none => rw [hm] at ha; cases ha
    | some a' => rw [hm] at ha; exact ⟨a', rfl, ha⟩
  have hR := run a' h1 p l e s mm args below meth c D g base b C H locs ls hP hS hl
  intro T hT X
  obtain ⟨v, st₀, t, T', L', h0, X', hL, e1, e2, ⟨ho, hRp, hz, hk⟩, stp⟩ := hR T hT X
  cases ho
  rw [h0] at hz hk
  have K := k a' a h2 p l e s mm args below meth c D g base b Q C hr T'.heap (locs ++ L') ls (by rw [e1]; exact hRp)
    ⟨Nat.le_trans hS.1 (by rw [e1]; exact hz), fun q h3 h4 => by rw [e1, hk q (Nat.lt_of_lt_of_le h3 hS.1) h4]; exact hS.2.1 q h3 h4, fun q hq => by
      rcases List.mem_append.mp hq with h | h
      · exact hS.2.2 q h
      · exact hL q h⟩ hl
  rw [List.map_append, hv] at K
  obtain ⟨t2, a1, b1⟩ := K T' rfl X'
  exact ⟨t2, stp t2 a1, b1⟩
def jm_lk (Y Y' : jm_Y) : Prop := (jm_rm Y').frames + 1 ≤ (jm_rm Y).frames ∧ 8 + (jm_ml Y' + 11) + (jm_rm Y').locals ≤ (jm_rm Y).locals
theorem jm_wgood {Y : jm_Y} {np : Nat} (ho : jm_ok Y np) : GoodIn jm_tbl (jm_w Y) := fun w h => (List.mem_cons.mp h).elim (fun e => by rw [e]; exact jm_good _ ho.2.2.1) (fun h => jm_good w h)
theorem jm_runS {β : Type} {Y' : jm_Y} {idx np : Nat} {avs rest : List Value} {m' : Option β} {ρ' : β → Option Value × Nat × jm_R × jm_M} {f : β → Option α} (hM : jm_Sim Y' 0 0 0 (lv_args 0 avs) [] n mr σ m' ρ') (ho : jm_ok Y' np) (hlk : jm_lk Y Y') (hl : Cond.methodLink (jm_nm Y).cls idx (jm_nm Y') ∈ jm_tbl) (hs : Cond.static (jm_nm Y') ∈ jm_tbl) (hd : decode (jm_cd Y) pc = .ok (.invokestatic idx, 3)) (hst : st = avs.reverse ++ rest) (hnp : avs.length = np) (hlen : (lg_sl avs).length ≤ jm_ml Y') (hrs : (rest.map fun v => v.category).sum ≤ 8) (hc1 : ce + (jm_rm Y').cells ≤ (jm_rm Y).cells) (hc2 : sl + (jm_rm Y').slots ≤ (jm_rm Y).slots)
    (hv : ∀ a (base b : Nat), (ρ' a).1.toList.map (jm_tr base b) = (ρ' a).1.toList) (k : ∀ a, jm_Sim Y (ce + (jm_rm Y').cells) (sl + (jm_rm Y').slots) (pc + 3) L ((ρ' a).1.toList ++ rest) (ρ' a).2.1 (ρ' a).2.2.1 (ρ' a).2.2.2 (f a) ρ) : jm_Sim Y ce sl pc L st n mr σ (jm_bd m' f) ρ := by
  refine jm_call (Y' := Y') (rest := rest) (fun a ha p l e s mm args below meth c D g base b C H locs ls hP hS hlv => ?_) hv k
  subst hst
  exact va_runS (As := avs.map (jm_tr base b)) (rest := rest.map (jm_tr base b)) ⟨C.1, C.2.1, C.2.2.1, C.2.2.2.1, C.2.2.2.2.1⟩ (jm_met hM ha ho hlen l D g base b) ⟨callB_of np C.2.2.2.2.1 (jm_wgood ho) rfl rfl rfl (C.2.2.2.2.1 _ ho.2.2.2.1) (C.2.2.2.2.1 _ hl) ho.2.2.2.2 hlk, C.2.2.2.2.1 _ hs⟩ ⟨jm_blind, fun U hU hW => jm_preU hP C.2.2.2.2.2.1 C.2.2.2.2.2.2.1 hS C.2.2.2.2.2.2.2.2.2.2 hU hW⟩ rfl (by rw [List.length_map]; exact hnp) hlv.1 (by show List.map _ (avs.reverse ++ rest) = _; rw [List.map_append, List.map_reverse]) (lv_room (by rw [jm_cats]; exact hrs)) hd ⟨hc1, hc2⟩
theorem jm_runSN {β : Type} {Y' : jm_Y} {idx np : Nat} {host : String} {avs rest : List Value} {m' : Option β} {ρ' : β → Option Value × Nat × jm_R × jm_M} {f : β → Option α} (hM : jm_Sim Y' 0 0 0 (lv_args 0 avs) [] n mr σ m' ρ') (ho : jm_ok Y' np) (hlk : jm_lk Y Y') (hl : ((jm_nm Y).cls, idx, jm_nm Y', host) ∈ jm_nest) (hs : Cond.static (jm_nm Y') ∈ jm_tbl) (hd : decode (jm_cd Y) pc = .ok (.invokestatic idx, 3)) (hst : st = avs.reverse ++ rest) (hnp : avs.length = np) (hlen : (lg_sl avs).length ≤ jm_ml Y') (hrs : (rest.map fun v => v.category).sum ≤ 8) (hc1 : ce + (jm_rm Y').cells ≤ (jm_rm Y).cells) (hc2 : sl + (jm_rm Y').slots ≤ (jm_rm Y).slots)
    (hv : ∀ a (base b : Nat), (ρ' a).1.toList.map (jm_tr base b) = (ρ' a).1.toList) (k : ∀ a, jm_Sim Y (ce + (jm_rm Y').cells) (sl + (jm_rm Y').slots) (pc + 3) L ((ρ' a).1.toList ++ rest) (ρ' a).2.1 (ρ' a).2.2.1 (ρ' a).2.2.2 (f a) ρ) : jm_Sim Y ce sl pc L st n mr σ (jm_bd m' f) ρ := by
  refine jm_call (Y' := Y') (rest := rest) (fun a ha p l e s mm args below meth c D g base b C H locs ls hP hS hlv => ?_) hv k
  subst hst
  exact va_runSN (As := avs.map (jm_tr base b)) (rest := rest.map (jm_tr base b)) ⟨C.1, C.2.1, C.2.2.1, C.2.2.2.1, C.2.2.2.2.1⟩ (jm_met hM ha ho hlen l D g base b) ⟨va_cnB np C.2.2.2.2.1 (jm_wgood ho) rfl rfl rfl (C.2.2.2.2.2.2.2.2.2.2 _ hl) (C.2.2.2.2.1 _ ho.2.2.2.1) ho.2.2.2.2 hlk, C.2.2.2.2.1 _ hs, trivial⟩ ⟨jm_blind, fun U hU hW => jm_preU hP C.2.2.2.2.2.1 C.2.2.2.2.2.2.1 hS C.2.2.2.2.2.2.2.2.2.2 hU hW⟩ rfl (by rw [List.length_map]; exact hnp) hlv.1 (by show List.map _ (avs.reverse ++ rest) = _; rw [List.map_append, List.map_reverse]) (lv_room (by rw [jm_cats]; exact hrs)) hd ⟨hc1, hc2⟩
theorem jm_runV {β : Type} {Y' : jm_Y} {idx np i ci : Nat} {q : vw_C} {avs rest : List Value} {m' : Option β} {ρ' : β → Option Value × Nat × jm_R × jm_M} {f : β → Option α} (hM : jm_Sim Y' 0 0 0 (lv_args 0 (.ref i :: avs)) [] n mr σ m' ρ') (ho : jm_ok Y' np) (hlk : jm_lk Y Y') (hl : Cond.methodLink (jm_nm Y).cls idx (jm_nm Y') ∈ jm_tbl) (hi : Cond.instanceMethod (jm_nm Y') ∈ jm_tbl) (hse : Cond.selects (jm_nm Y').cls (jm_nm Y') (jm_nm Y') ∈ jm_tbl) (hd : decode (jm_cd Y) pc = .ok (.invokevirtual idx, 3)) (hst : st = avs.reverse ++ .ref i :: rest) (hsh : jm_sh i = .inr ci) (hq : vwCl[ci]? = some q) (hqc : q.1 = (jm_nm Y').cls) (h1 : 1 ≤ i) (h2 : i ≤ n) (hnp : avs.length = np) (hlen : (lg_sl (.ref i :: avs)).length ≤ jm_ml Y') (hrs : (rest.map fun v => v.category).sum ≤ 8) (hc1 : ce + (jm_rm Y').cells ≤ (jm_rm Y).cells) (hc2 : sl + (jm_rm Y').slots ≤ (jm_rm Y).slots)
    (hv : ∀ a (base b : Nat), (ρ' a).1.toList.map (jm_tr base b) = (ρ' a).1.toList) (k : ∀ a, jm_Sim Y (ce + (jm_rm Y').cells) (sl + (jm_rm Y').slots) (pc + 3) L ((ρ' a).1.toList ++ rest) (ρ' a).2.1 (ρ' a).2.2.1 (ρ' a).2.2.2 (f a) ρ) : jm_Sim Y ce sl pc L st n mr σ (jm_bd m' f) ρ := by
  refine jm_call (Y' := Y') (rest := rest) (fun a ha p l e s mm args below meth c D g base b C H locs ls hP hS hlv => ?_) hv k
  subst hst
  have hrec := va_recv C.2.2.2.2.2.1 hP.2 hq ((jm_at h1 h2).trans (by rw [jm_ob hsh]))
  rw [hqc] at hrec
  have hpre : ∀ U : State, U.heap = H → s.WarmedH U.vm → va_Pc ((Value.ref i :: avs).map (jm_tr base b)) (jm_B D g base n mr σ) (Value.ref (base + i) :: avs.map (jm_tr base b)).toArray U := fun U hU hW => by
    have h := jm_preU (av := (Value.ref i :: avs).map (jm_tr base b)) hP C.2.2.2.2.2.1 C.2.2.2.2.2.2.1 hS C.2.2.2.2.2.2.2.2.2.2 hU hW
    rw [List.map_cons, jm_tr_ref base b i h1] at h ⊢
    exact h
  exact va_runV (b := base + i) (C := (jm_nm Y').cls) (As := avs.map (jm_tr base b)) (rest := rest.map (jm_tr base b)) (g := F0 mm pc ls ((avs.reverse ++ .ref i :: rest).map (jm_tr base b))) ⟨C.1, C.2.1, C.2.2.1, C.2.2.2.1, C.2.2.2.2.1⟩ (jm_met hM ha ho hlen l D g base b) ⟨callB_of np C.2.2.2.2.1 (jm_wgood ho) rfl rfl rfl (C.2.2.2.2.1 _ ho.2.2.2.1) (C.2.2.2.2.1 _ hl) ho.2.2.2.2 hlk, C.2.2.2.2.1 _ hi, C.2.2.2.2.1 _ hse⟩ ⟨jm_blind, hrec, hpre⟩ rfl (by rw [List.length_map]; exact hnp) hlv.1 (by show List.map _ (avs.reverse ++ .ref i :: rest) = _; rw [List.map_append, List.map_reverse, List.map_cons, jm_tr_ref base b i h1]) (lv_room (by rw [jm_cats]; exact hrs)) hd (below := below) (locs := locs) ⟨hc1, hc2⟩
theorem jm_runI {β : Type} {Y' : jm_Y} {idx np i : Nat} {avs rest : List Value} {m' : Option β} {ρ' : β → Option Value × Nat × jm_R × jm_M} {f : β → Option α} (hM : jm_Sim Y' 0 0 0 (lv_args 0 (.ref i :: avs)) [] n mr σ m' ρ') (ho : jm_ok Y' np) (hlk : jm_lk Y Y') (hl : Cond.methodLink (jm_nm Y).cls idx (jm_nm Y') ∈ jm_tbl) (hi : Cond.instanceMethod (jm_nm Y') ∈ jm_tbl) (hname : (jm_nm Y').name = "<init>") (hrt : jm_rt Y' = none) (hd : decode (jm_cd Y) pc = .ok (.invokespecial idx, 3)) (hst : st = avs.reverse ++ .ref i :: rest) (h1 : 1 ≤ i) (hnp : avs.length = np) (hlen : (lg_sl (.ref i :: avs)).length ≤ jm_ml Y') (hrs : (rest.map fun v => v.category).sum ≤ 8) (hc1 : ce + (jm_rm Y').cells ≤ (jm_rm Y).cells) (hc2 : sl + (jm_rm Y').slots ≤ (jm_rm Y).slots)
    (hv : ∀ a (base b : Nat), (ρ' a).1.toList.map (jm_tr base b) = (ρ' a).1.toList) (k : ∀ a, jm_Sim Y (ce + (jm_rm Y').cells) (sl + (jm_rm Y').slots) (pc + 3) L ((ρ' a).1.toList ++ rest) (ρ' a).2.1 (ρ' a).2.2.1 (ρ' a).2.2.2 (f a) ρ) : jm_Sim Y ce sl pc L st n mr σ (jm_bd m' f) ρ := by
  refine jm_call (Y' := Y') (rest := rest) (fun a ha p l e s mm args below meth c D g base b C H locs ls hP hS hlv => ?_) hv k
  subst hst
  have hpre : ∀ U : State, U.heap = H → s.WarmedH U.vm → va_Pc ((Value.ref i :: avs).map (jm_tr base b)) (jm_B D g base n mr σ) (Value.ref (base + i) :: avs.map (jm_tr base b)).toArray U := fun U hU hW => by
    have h := jm_preU (av := (Value.ref i :: avs).map (jm_tr base b)) hP C.2.2.2.2.2.1 C.2.2.2.2.2.2.1 hS C.2.2.2.2.2.2.2.2.2.2 hU hW
    rw [List.map_cons, jm_tr_ref base b i h1] at h ⊢
    exact h
  have hcb := callB_of (R := jm_rm Y) (args := args) (s := s) (own := (jm_nm Y).cls) (index := idx) np C.2.2.2.2.1 (jm_wgood ho) rfl rfl rfl (C.2.2.2.2.1 _ ho.2.2.2.1) (C.2.2.2.2.1 _ hl) ho.2.2.2.2 hlk
  rw [hrt] at hcb
  exact va_runI (b := base + i) (As := avs.map (jm_tr base b)) (rest := rest.map (jm_tr base b)) (g := F0 mm pc ls ((avs.reverse ++ .ref i :: rest).map (jm_tr base b))) ⟨C.1, C.2.1, C.2.2.1, C.2.2.2.1, C.2.2.2.2.1⟩ (jm_met hM ha ho hlen l D g base b) ⟨hcb, hname, C.2.2.2.2.1 _ hi⟩ ⟨jm_blind, hpre⟩ rfl (by rw [List.length_map]; exact hnp) hlv.1 (by show List.map _ (avs.reverse ++ .ref i :: rest) = _; rw [List.map_append, List.map_reverse, List.map_cons, jm_tr_ref base b i h1]) (lv_room (by rw [jm_cats]; exact hrs)) hd (below := below) (locs := locs) ⟨hc1, hc2⟩
/-! cells that are made -/
def jm_okT (ty : FieldType) : Bool := match ty with
  | .float => false
  | .double => false
  | _ => true
theorem jm_zc {g : ClassId × ClassId × ClassId} {base : Nat} : jm_ws g base n (jm_zr mr (n + 1)) (jm_z σ (n + 1)) = jm_ws g base n mr σ := by
  apply List.map_congr_left
  intro i hi
  have hi := List.mem_range.mp hi
  have hne : i + 1 ≠ n + 1 := by omega
  rw [jm_cell_eq (mr := mr) (σ := σ)]
  · funext b; simp [jm_z, hne]; intro h; omega
  · funext b; simp [jm_z, hne]; intro h; omega
  · funext b; simp [jm_zr, hne]; intro h; omega
theorem jm_wss {g : ClassId × ClassId × ClassId} {base : Nat} : jm_ws g base (n + 1) mr σ = jm_ws g base n mr σ ++ [(base + (n + 1), jm_cell g base mr σ (n + 1))] := by
  rw [jm_ws, List.range_succ, List.map_append]
  rfl
theorem jm_fv0 {base i k : Nat} {ty : FieldType} (h : jm_okT ty = true) : jm_fv base (jm_zr mr i) (jm_z σ i) i k ty = defaultValue ty := by
  have e1 : (jm_z σ i).1 i k = 0 := by simp [jm_z]
  have e2 : (jm_z σ i).2 i k = 0 := by simp [jm_z]
  have e3 : jm_zr mr i i k = none := by simp [jm_zr]
  cases ty <;> first | (simp only [jm_fv, e1, e2, e3, jm_rv, defaultValue]; done) | (exact absurd h (by decide))
theorem jm_new {f : jm_M → Option α} {idx ci N : Nat} {C : String} {T : u_T} {ty0 : Nat → FieldType} (hd : decode (jm_cd Y) pc = .ok (.new idx, 3)) (hin : ∀ w ∈ u_ws C T N, w ∈ jm_tbl) (hq : vwCl[ci]? = some (C, T, N)) (hty : ∀ k, k < N → parseFieldDescriptor (T k).2.2.1 = some (ty0 k)) (hft : ∀ k, k < N → (jm_fts ci)[k]? = some (ty0 k)) (hok : ∀ k, k < N → jm_okT (ty0 k) = true) (hcl : Cond.classLink (jm_nm Y).cls idx C ∈ jm_tbl) (hins : Cond.instantiable C N ∈ jm_tbl) (hini : Cond.initialized C ∈ jm_tbl) (hs : jm_sh (n + 1) = .inr ci) (hce : ce + 1 ≤ (jm_rm Y).cells) (hsl : sl + N ≤ (jm_rm Y).slots)
    (kk : ∀ σ1, jm_Sim Y (ce + 1) (sl + N) (pc + 3) L (.ref (n + 1) :: st) (n + 1) (jm_zr mr (n + 1)) σ1 (f σ1) ρ) : jm_Sim Y ce sl pc L st n mr σ (jm_ev (jm_z σ (n + 1)) f) ρ := by
  refine jm_go (fun p l e s mm args below meth c D g base b Q Cx H locs ls hP hS hl k9 => ?_) (kk (jm_z σ (n + 1)))
  have hts := Cx.2.2.2.2.1
  have hKn := Cx.2.2.2.2.2.1.1 ci _ hq
  refine W.newcK Cx.1 Cx.2.1 Cx.2.2.2.1 (hts _ hcl) (hts _ hins) (hts _ hini) rfl hd hce hsl hKn.2.1 hP.1 fun H1 kC hkC e1 z1 o1 => ?_
  refine k9 H1 locs ls ⟨z1, ?_⟩ ⟨Nat.le_trans hS.1 (by rw [z1, hP.1]; omega), fun x h1 h2 => (o1 x (by have h3 := hS.1; have h4 := hP.1; omega)).trans (hS.2.1 x h1 h2), hS.2.2⟩ hl
  rw [jm_wss, jm_zc]
  refine va_P.app (hP.2.kept (fun k x hx => o1 x.1 (by have h3 := jm_ws_get hx; omega))) (fun k x hx => ?_)
  have hz : k < 1 := (List.getElem?_eq_some_iff.mp hx).1
  rw [show k = 0 by omega] at hx
  cases hx
  rw [jm_ob hs]
  refine ⟨_, hq, (u_born ty0 hts hin hKn hkC e1 hty).to (fun j hj => ?_)⟩
  rw [vp_V, List.getD_eq_getElem?_getD, List.getElem?_mapIdx, hft j hj, Option.map_some, jm_fv0 (hok j hj)]
  rfl
theorem jm_nav {f : jm_M → Option α} {aty : ArrayType} {ty : FieldType} {x : Int32} {N : Nat} {cs : ClassId × ClassId × ClassId → ClassId} (hd : decode (jm_cd Y) pc = .ok (.newarray aty, 2)) (hat : newarray.typeOf aty = ty) (hac : Cond.arrayClass ty ∈ jm_tbl) (hx : ¬ x < 0) (hN : x.toNatClampNeg = N) (hby : N * componentBytes ty ≤ 536870912) (hg : ∀ (g : ClassId × ClassId × ClassId) (s : State), (∀ (k : Nat) (q : ClassId × FieldType), (jm_ty g)[k]? = some q → ArrOfT s q.1 q.2 ∧ va_RA s q.1 q.2) → s.vm.findClass ("[" ++ ty.toString) = some (cs g)) (hce : ce + 1 ≤ (jm_rm Y).cells) (hsl : sl + N ≤ (jm_rm Y).slots)
    (hcell : ∀ (g : ClassId × ClassId × ClassId) (base : Nat) (mr : jm_R), ∃ a0, jm_cell g base mr (jm_z σ (n + 1)) (n + 1) = .inl (cs g, a0) ∧ vp_cell (cs g) a0 = arrV (cs g) N (fun _ => defaultValue ty))
    (kk : ∀ σ1, jm_Sim Y (ce + 1) (sl + N) (pc + 2) L (.ref (n + 1) :: st) (n + 1) (jm_zr mr (n + 1)) σ1 (f σ1) ρ) : jm_Sim Y ce sl pc L (.int x :: st) n mr σ (jm_ev (jm_z σ (n + 1)) f) ρ := by
  refine jm_go (fun p l e s mm args below meth c D g base b Q Cx H locs ls hP hS hl k9 => ?_) (kk (jm_z σ (n + 1)))
  have hts := Cx.2.2.2.2.1
  subst hat
  refine va_newaK Cx.1 Cx.2.1 (hts _ hac) rfl hd rfl hx hN hby hce hsl hP.1 fun H1 cA e1 z1 o1 hAr hNm => ?_
  have hcA : cA = cs g := Option.some.inj (hNm.symm.trans (hg g s Cx.2.2.2.2.2.1.2))
  subst hcA
  refine k9 H1 locs ls ⟨z1, ?_⟩ ⟨Nat.le_trans hS.1 (by rw [z1, hP.1]; omega), fun x h1 h2 => (o1 x (by have h3 := hS.1; have h4 := hP.1; omega)).trans (hS.2.1 x h1 h2), hS.2.2⟩ hl
  rw [jm_wss, jm_zc]
  refine va_P.app (hP.2.kept (fun k x hx => o1 x.1 (by have h3 := jm_ws_get hx; omega))) (fun k x hx => ?_)
  have hz : k < 1 := (List.getElem?_eq_some_iff.mp hx).1
  rw [show k = 0 by omega] at hx
  cases hx
  obtain ⟨a0, h1, h2⟩ := hcell g base (jm_zr mr (n + 1))
  rw [h1]
  show H1[base + (n + 1)]? = some (vp_cell _ _)
  rw [h2]
  exact e1
theorem jm_nai {f : jm_M → Option α} {x : Int32} {N : Nat} (hd : decode (jm_cd Y) pc = .ok (.newarray .int, 2)) (hac : Cond.arrayClass .int ∈ jm_tbl) (hx : ¬ x < 0) (hN : x.toNatClampNeg = N) (hby : N * componentBytes .int ≤ 536870912) (hs : jm_sh (n + 1) = .inl (.int, N)) (hce : ce + 1 ≤ (jm_rm Y).cells) (hsl : sl + N ≤ (jm_rm Y).slots)
    (kk : ∀ σ1, jm_Sim Y (ce + 1) (sl + N) (pc + 2) L (.ref (n + 1) :: st) (n + 1) (jm_zr mr (n + 1)) σ1 (f σ1) ρ) : jm_Sim Y ce sl pc L (.int x :: st) n mr σ (jm_ev (jm_z σ (n + 1)) f) ρ :=
  jm_nav (cs := fun g => g.1) hd rfl hac hx hN hby (fun g s h => (h 0 (g.1, .int) rfl).2) hce hsl (fun g base mr => ⟨_, jm_aci hs, by rw [vp_cell_i]; congr 1; funext j; simp [jm_z, defaultValue, newarray.typeOf]⟩) kk
theorem jm_nab {f : jm_M → Option α} {x : Int32} {N : Nat} (hd : decode (jm_cd Y) pc = .ok (.newarray .byte, 2)) (hac : Cond.arrayClass .byte ∈ jm_tbl) (hx : ¬ x < 0) (hN : x.toNatClampNeg = N) (hby : N * componentBytes .byte ≤ 536870912) (hs : jm_sh (n + 1) = .inl (.byte, N)) (hce : ce + 1 ≤ (jm_rm Y).cells) (hsl : sl + N ≤ (jm_rm Y).slots)
    (kk : ∀ σ1, jm_Sim Y (ce + 1) (sl + N) (pc + 2) L (.ref (n + 1) :: st) (n + 1) (jm_zr mr (n + 1)) σ1 (f σ1) ρ) : jm_Sim Y ce sl pc L (.int x :: st) n mr σ (jm_ev (jm_z σ (n + 1)) f) ρ :=
  jm_nav (cs := fun g => g.2.1) hd rfl hac hx hN hby (fun g s h => (h 1 (g.2.1, .byte) rfl).2) hce hsl (fun g base mr => ⟨_, jm_acb hs, by rw [vp_cell_i]; congr 1; funext j; simp [jm_z, defaultValue, newarray.typeOf]⟩) kk
theorem jm_nal {f : jm_M → Option α} {x : Int32} {N : Nat} (hd : decode (jm_cd Y) pc = .ok (.newarray .long, 2)) (hac : Cond.arrayClass .long ∈ jm_tbl) (hx : ¬ x < 0) (hN : x.toNatClampNeg = N) (hby : N * componentBytes .long ≤ 536870912) (hs : jm_sh (n + 1) = .inl (.long, N)) (hce : ce + 1 ≤ (jm_rm Y).cells) (hsl : sl + N ≤ (jm_rm Y).slots)
    (kk : ∀ σ1, jm_Sim Y (ce + 1) (sl + N) (pc + 2) L (.ref (n + 1) :: st) (n + 1) (jm_zr mr (n + 1)) σ1 (f σ1) ρ) : jm_Sim Y ce sl pc L (.int x :: st) n mr σ (jm_ev (jm_z σ (n + 1)) f) ρ :=
  jm_nav (cs := fun g => g.2.2) hd rfl hac hx hN hby (fun g s h => (h 2 (g.2.2, .long) rfl).2) hce hsl (fun g base mr => ⟨_, jm_acl hs, by rw [vp_cell_l]; congr 1; funext j; simp [jm_z, defaultValue, newarray.typeOf]⟩) kk
theorem jm_blen {i len : Nat} {v : Int32} (hd : decode (jm_cd Y) pc = .ok (.arraylength, 1)) (hs : jm_sh i = .inl (.byte, len)) (h1 : 1 ≤ i) (h2 : i ≤ n) (hv : Int32.ofNat len = v) (kk : jm_Sim Y ce sl (pc + 1) L (.int v :: st) n mr σ m ρ) : jm_Sim Y ce sl pc L (.ref i :: st) n mr σ m ρ := by
  refine jm_go (fun _ _ _ _ _ _ _ _ _ D g base b _ Cx H locs ls hP hS hl k9 => ?_) kk
  rw [List.map_cons, jm_tr_ref base b i h1]
  exact va_alen Cx.1 Cx.2.1 Cx.2.2.2.2.2.1 hP.2 (i - 1) 1 ((jm_at h1 h2).trans (by rw [jm_acb hs])) rfl hv hd (k9 H locs ls hP hS hl)
/-! the script -/
def jm_lds {α : Type} (xs : Nat → Int32) (len : Nat) (j : Int32) (f : Int32 → Option α) : Option α := if jm_inb j len = true then f (xs j.toNatClampNeg) else none
theorem jm_sld {f : Int32 → Option α} {len : Nat} {xs : Nat → Int32} {j : Int32} (hd : decode (jm_cd Y) pc = .ok (.iaload, 1)) (hs : jm_sc Y = some (len, xs)) (kk : ∀ x, jm_Sim Y ce sl (pc + 1) L (.int x :: st) n mr σ (f x) ρ) : jm_Sim Y ce sl pc L (.int j :: .ref 0 :: st) n mr σ (jm_lds xs len j f) ρ := by
  refine jm_gd (fun a hb ha => ?_)
  refine jm_go (fun _ _ _ _ _ _ _ _ _ D g base b _ Cx H locs ls hP hS hl k9 => ?_) (kk (xs j.toNatClampNeg)) a ha
  obtain ⟨hX, hbl, hbb⟩ := Cx.2.2.2.2.2.2.2.2.2.1 _ hs
  exact va_sld Cx.1 Cx.2.1 hX hbl (fun h => absurd h (Nat.not_lt.mpr hbb)) hS (jm_inb_vp hb) hd (k9 H locs ls hP hS hl)
theorem jm_slen2 {len : Nat} {xs : Nat → Int32} (hd : decode (jm_cd Y) pc = .ok (.arraylength, 1)) (hs : jm_sc Y = some (len, xs)) (kk : jm_Sim Y ce sl (pc + 1) L (.int (Int32.ofNat len) :: st) n mr σ m ρ) : jm_Sim Y ce sl pc L (.ref 0 :: st) n mr σ m ρ := by
  refine jm_go (fun _ _ _ _ _ _ _ _ _ D g base b _ Cx H locs ls hP hS hl k9 => ?_) kk
  obtain ⟨hX, hbl, hbb⟩ := Cx.2.2.2.2.2.2.2.2.2.1 _ hs
  exact va_slen Cx.1 Cx.2.1 hX hbl (fun h => absurd h (Nat.not_lt.mpr hbb)) hS hd (k9 H locs ls hP hS hl)
/-! Object's constructor; switches -/
theorem jm_oinit {i idx : Nat} (hd : decode (jm_cd Y) pc = .ok (.invokespecial idx, 3)) (hl : Cond.methodLink (jm_nm Y).cls idx Lib.objectInit ∈ jm_tbl) (hi : Cond.instanceMethod Lib.objectInit ∈ jm_tbl) (hc : Cond.code Lib.objectInit ⟨#[0xb1]⟩ 1 none ∈ jm_tbl) (hf : 1 ≤ (jm_rm Y).frames) (hr : (st.map fun v => v.category).sum + 12 ≤ (jm_rm Y).locals) (kk : jm_Sim Y ce sl (pc + 3) L st n mr σ m ρ) : jm_Sim Y ce sl pc L (.ref i :: st) n mr σ m ρ := by
  refine jm_go (fun _ _ _ _ _ _ _ _ _ D g base b _ Cx H locs ls hP hS hlv k9 => ?_) kk
  obtain ⟨a, ha⟩ := jm_tr_any base b i
  have hts := Cx.2.2.2.2.1
  rw [List.map_cons, ha]
  refine W.objInit Cx.1 Cx.2.1 Cx.2.2.2.1 (hts _ hl) (hts _ hi) (hts _ hc) rfl (by rw [Cx.2.2.1]; exact hlv.1) rfl hd hf ?_ (k9 H locs ls hP hS hlv)
  rw [jm_cats]
  exact Nat.le_trans (by simp [JFrame.monitorRoom]) hr
theorem jm_case {x : Int32} (v : Int32) {m1 m2 : Option α} {inst : Decidable (x = v)} (k1 : jm_Sim Y ce sl pc L (.int v :: st) n mr σ m1 ρ) (k2 : ¬ x = v → jm_Sim Y ce sl pc L (.int x :: st) n mr σ m2 ρ) : jm_Sim Y ce sl pc L (.int x :: st) n mr σ (@ite _ (x = v) inst m1 m2) ρ := by
  by_cases h : x = v
  · rw [if_pos h, h]
    exact k1
  · rw [if_neg h]
    exact k2 h
theorem jm_tswIn {dflt lo hi off : Int} {offs : Array Int} {len : Nat} {x : Int32} {tgt : Nat} (hd : decode (jm_cd Y) pc = .ok (.tableswitch dflt lo hi offs, len)) (h1 : ¬ x.toInt < lo) (h2 : ¬ hi < x.toInt) (ho : offs[(x.toInt - lo).toNat]? = some off) (ht : (pc : Int) + off = (tgt : Int)) (k : jm_Sim Y ce sl tgt L st n mr σ m ρ) : jm_Sim Y ce sl pc L (.int x :: st) n mr σ m ρ :=
  jm_go (fun _ _ _ _ _ _ _ _ _ _ _ base b _ C H locs ls hP hS hl kk => lv_tableIn C.1 C.2.1 hd h1 h2 ho ht (kk H locs ls hP hS hl)) k
theorem jm_tswOut {dflt lo hi : Int} {offs : Array Int} {len : Nat} {x : Int32} {tgt : Nat} (hd : decode (jm_cd Y) pc = .ok (.tableswitch dflt lo hi offs, len)) (h : x.toInt < lo ∨ hi < x.toInt) (ht : (pc : Int) + dflt = (tgt : Int)) (k : jm_Sim Y ce sl tgt L st n mr σ m ρ) : jm_Sim Y ce sl pc L (.int x :: st) n mr σ m ρ :=
  jm_go (fun _ _ _ _ _ _ _ _ _ _ _ base b _ C H locs ls hP hS hl kk => lv_tableOut C.1 C.2.1 hd h ht (kk H locs ls hP hS hl)) k
theorem jm_lsw {dflt off : Int} {ps : Array (Int × Int)} {len : Nat} {x : Int32} {tgt : Nat} (hd : decode (jm_cd Y) pc = .ok (.lookupswitch dflt ps, len)) (hp : (ps.toList.zip (ps.toList.drop 1)).all (fun (a, next) => a.1 < next.1) = true) (ho : Op.lookupswitch.offset ps.toList dflt x.toInt = off) (ht : (pc : Int) + off = (tgt : Int)) (k : jm_Sim Y ce sl tgt L st n mr σ m ρ) : jm_Sim Y ce sl pc L (.int x :: st) n mr σ m ρ :=
  jm_go (fun _ _ _ _ _ _ _ _ _ _ _ base b _ C H locs ls hP hS hl kk => lv_lookup C.1 C.2.1 hd hp ho ht (kk H locs ls hP hS hl)) k
theorem jm_neT {x : Int32} (v : Int32) {a : Int} (h : ¬ x = v) (hk : v.toInt = a) : ¬ x.toInt = a := fun q => h (Int32.toInt_inj.mp (by rw [hk]; exact q))
/-! names for values -/
theorem jm_nvi {x : Int32} {f : Int32 → Option α} (k : ∀ y, jm_Sim Y ce sl pc L (.int y :: st) n mr σ (f y) ρ) : jm_Sim Y ce sl pc L (.int x :: st) n mr σ (jm_vi x f) ρ := k x
theorem jm_nvl {x : Int64} {f : Int64 → Option α} (k : ∀ y, jm_Sim Y ce sl pc L (.long y :: st) n mr σ (f y) ρ) : jm_Sim Y ce sl pc L (.long x :: st) n mr σ (jm_vl x f) ρ := k x
theorem jm_mmin {idx : Nat} {x y : Int32} (hd : decode (jm_cd Y) pc = .ok (.invokestatic idx, 3)) (hl : Cond.methodLink (jm_nm Y).cls idx Lib.Math.min.name ∈ jm_tbl) (hs : Cond.static Lib.Math.min.name ∈ jm_tbl) (hi : Cond.initialized "java/lang/Math" ∈ jm_tbl) (hc : Cond.code Lib.Math.min.name Lib.Math.min.code 2 (some .int) ∈ jm_tbl) (hf : 1 ≤ (jm_rm Y).frames) (hr : (st.map fun v => v.category).sum + 13 ≤ (jm_rm Y).locals) (hc1 : ce ≤ (jm_rm Y).cells) (hc2 : sl ≤ (jm_rm Y).slots) (kk : jm_Sim Y ce sl (pc + 3) L (.int (jm_min x y) :: st) n mr σ m ρ) : jm_Sim Y ce sl pc L (.int y :: .int x :: st) n mr σ m ρ :=
  jm_go (fun _ _ _ _ _ _ _ _ _ D g base b _ Cx H locs ls hP hS hlv k9 => va_mmin Cx.1 Cx.2.1 (Cx.2.2.1.trans hlv.1.symm) Cx.2.2.2.1 (Cx.2.2.2.2.1 _ hl) (Cx.2.2.2.2.1 _ hs) (Cx.2.2.2.2.1 _ hi) (Cx.2.2.2.2.1 _ hc) hf (by rw [jm_cats]; exact hr) hc1 hc2 hd (k9 H locs ls hP hS hlv)) kk
theorem jm_mmax {idx : Nat} {x y : Int32} (hd : decode (jm_cd Y) pc = .ok (.invokestatic idx, 3)) (hl : Cond.methodLink (jm_nm Y).cls idx Lib.Math.max.name ∈ jm_tbl) (hs : Cond.static Lib.Math.max.name ∈ jm_tbl) (hi : Cond.initialized "java/lang/Math" ∈ jm_tbl) (hc : Cond.code Lib.Math.max.name Lib.Math.max.code 2 (some .int) ∈ jm_tbl) (hf : 1 ≤ (jm_rm Y).frames) (hr : (st.map fun v => v.category).sum + 13 ≤ (jm_rm Y).locals) (hc1 : ce ≤ (jm_rm Y).cells) (hc2 : sl ≤ (jm_rm Y).slots) (kk : jm_Sim Y ce sl (pc + 3) L (.int (jm_max x y) :: st) n mr σ m ρ) : jm_Sim Y ce sl pc L (.int y :: .int x :: st) n mr σ m ρ :=
  jm_go (fun _ _ _ _ _ _ _ _ _ D g base b _ Cx H locs ls hP hS hlv k9 => va_mmax Cx.1 Cx.2.1 (Cx.2.2.1.trans hlv.1.symm) Cx.2.2.2.1 (Cx.2.2.2.2.1 _ hl) (Cx.2.2.2.2.1 _ hs) (Cx.2.2.2.2.1 _ hi) (Cx.2.2.2.2.1 _ hc) hf (by rw [jm_cats]; exact hr) hc1 hc2 hd (k9 H locs ls hP hS hlv)) kk
end JR
/-! the four kinds of answer; calls that make no cell -/
def jm_rI (n : Nat) (mr : jm_R) (σ : jm_M) : Int32 → Option Value × Nat × jm_R × jm_M := fun x => (some (.int x), n, mr, σ)
def jm_rL (n : Nat) (mr : jm_R) (σ : jm_M) : Int64 → Option Value × Nat × jm_R × jm_M := fun x => (some (.long x), n, mr, σ)
def jm_rP (n : Nat) (mr : jm_R) : Int32 × jm_M → Option Value × Nat × jm_R × jm_M := fun x => (some (.int x.1), n, mr, x.2)
def jm_rV (n : Nat) (mr : jm_R) : jm_M → Option Value × Nat × jm_R × jm_M := fun x => (none, n, mr, x)
def jm_l0 (Y Y' : jm_Y) : Prop := jm_lk Y Y' ∧ (jm_rm Y').cells = 0 ∧ (jm_rm Y').slots = 0
theorem jm_none {α : Type} {Y : jm_Y} {ce sl pc : Nat} {L : List (Nat × Value)} {st : List Value} {n : Nat} {mr : jm_R} {σ : jm_M} {ρ : α → Option Value × Nat × jm_R × jm_M} : jm_Sim Y ce sl pc L st n mr σ none ρ := fun _ h => by cases h
def jm_b2 {α : Type} (m : Option (Int32 × jm_M)) (f : Int32 → jm_M → Option α) : Option α := jm_bd m (fun z => f z.1 z.2)
section JK
variable {α : Type} {Y : jm_Y} {ce sl pc : Nat} {L : List (Nat × Value)} {st : List Value} {n : Nat} {mr : jm_R} {σ : jm_M} {m : Option α} {ρ : α → Option Value × Nat × jm_R × jm_M}
theorem jm_Sp {Y' : jm_Y} {idx np : Nat} {avs rest : List Value} {m' : Option Int32} {f : Int32 → Option α} (hM : jm_Sim Y' 0 0 0 (lv_args 0 avs) [] n mr σ m' (jm_rI n mr σ)) (ho : jm_ok Y' np) (h0 : jm_l0 Y Y') (hl : Cond.methodLink (jm_nm Y).cls idx (jm_nm Y') ∈ jm_tbl) (hs : Cond.static (jm_nm Y') ∈ jm_tbl) (hd : decode (jm_cd Y) pc = .ok (.invokestatic idx, 3)) (hst : st = avs.reverse ++ rest) (hnp : avs.length = np) (hlen : (lg_sl avs).length ≤ jm_ml Y') (hrs : (rest.map fun v => v.category).sum ≤ 8) (hc1 : ce ≤ (jm_rm Y).cells) (hc2 : sl ≤ (jm_rm Y).slots) (k : ∀ x, jm_Sim Y ce sl (pc + 3) L (.int x :: rest) n mr σ (f x) ρ) : jm_Sim Y ce sl pc L st n mr σ (jm_bd m' f) ρ :=
  jm_runS hM ho h0.1 hl hs hd hst hnp hlen hrs (by rw [h0.2.1]; exact hc1) (by rw [h0.2.2]; exact hc2) (fun _ _ _ => rfl) (fun a => by rw [h0.2.1, h0.2.2]; exact k a)
theorem jm_Np {Y' : jm_Y} {idx np : Nat} {host : String} {avs rest : List Value} {m' : Option Int32} {f : Int32 → Option α} (hM : jm_Sim Y' 0 0 0 (lv_args 0 avs) [] n mr σ m' (jm_rI n mr σ)) (ho : jm_ok Y' np) (h0 : jm_l0 Y Y') (hl : ((jm_nm Y).cls, idx, jm_nm Y', host) ∈ jm_nest) (hs : Cond.static (jm_nm Y') ∈ jm_tbl) (hd : decode (jm_cd Y) pc = .ok (.invokestatic idx, 3)) (hst : st = avs.reverse ++ rest) (hnp : avs.length = np) (hlen : (lg_sl avs).length ≤ jm_ml Y') (hrs : (rest.map fun v => v.category).sum ≤ 8) (hc1 : ce ≤ (jm_rm Y).cells) (hc2 : sl ≤ (jm_rm Y).slots) (k : ∀ x, jm_Sim Y ce sl (pc + 3) L (.int x :: rest) n mr σ (f x) ρ) : jm_Sim Y ce sl pc L st n mr σ (jm_bd m' f) ρ :=
  jm_runSN hM ho h0.1 hl hs hd hst hnp hlen hrs (by rw [h0.2.1]; exact hc1) (by rw [h0.2.2]; exact hc2) (fun _ _ _ => rfl) (fun a => by rw [h0.2.1, h0.2.2]; exact k a)
theorem jm_Vp {Y' : jm_Y} {idx np i ci : Nat} {q : vw_C} {avs rest : List Value} {m' : Option Int32} {f : Int32 → Option α} (hM : jm_Sim Y' 0 0 0 (lv_args 0 (.ref i :: avs)) [] n mr σ m' (jm_rI n mr σ)) (ho : jm_ok Y' np) (h0 : jm_l0 Y Y') (hl : Cond.methodLink (jm_nm Y).cls idx (jm_nm Y') ∈ jm_tbl) (hi : Cond.instanceMethod (jm_nm Y') ∈ jm_tbl) (hse : Cond.selects (jm_nm Y').cls (jm_nm Y') (jm_nm Y') ∈ jm_tbl) (hd : decode (jm_cd Y) pc = .ok (.invokevirtual idx, 3)) (hst : st = avs.reverse ++ .ref i :: rest) (hsh : jm_sh i = .inr ci) (hq : vwCl[ci]? = some q) (hqc : q.1 = (jm_nm Y').cls) (h1 : 1 ≤ i) (h2 : i ≤ n) (hnp : avs.length = np) (hlen : (lg_sl (.ref i :: avs)).length ≤ jm_ml Y') (hrs : (rest.map fun v => v.category).sum ≤ 8) (hc1 : ce ≤ (jm_rm Y).cells) (hc2 : sl ≤ (jm_rm Y).slots) (k : ∀ x, jm_Sim Y ce sl (pc + 3) L (.int x :: rest) n mr σ (f x) ρ) : jm_Sim Y ce sl pc L st n mr σ (jm_bd m' f) ρ :=
  jm_runV hM ho h0.1 hl hi hse hd hst hsh hq hqc h1 h2 hnp hlen hrs (by rw [h0.2.1]; exact hc1) (by rw [h0.2.2]; exact hc2) (fun _ _ _ => rfl) (fun a => by rw [h0.2.1, h0.2.2]; exact k a)
theorem jm_Sl {Y' : jm_Y} {idx np : Nat} {avs rest : List Value} {m' : Option Int64} {f : Int64 → Option α} (hM : jm_Sim Y' 0 0 0 (lv_args 0 avs) [] n mr σ m' (jm_rL n mr σ)) (ho : jm_ok Y' np) (h0 : jm_l0 Y Y') (hl : Cond.methodLink (jm_nm Y).cls idx (jm_nm Y') ∈ jm_tbl) (hs : Cond.static (jm_nm Y') ∈ jm_tbl) (hd : decode (jm_cd Y) pc = .ok (.invokestatic idx, 3)) (hst : st = avs.reverse ++ rest) (hnp : avs.length = np) (hlen : (lg_sl avs).length ≤ jm_ml Y') (hrs : (rest.map fun v => v.category).sum ≤ 8) (hc1 : ce ≤ (jm_rm Y).cells) (hc2 : sl ≤ (jm_rm Y).slots) (k : ∀ x, jm_Sim Y ce sl (pc + 3) L (.long x :: rest) n mr σ (f x) ρ) : jm_Sim Y ce sl pc L st n mr σ (jm_bd m' f) ρ :=
  jm_runS hM ho h0.1 hl hs hd hst hnp hlen hrs (by rw [h0.2.1]; exact hc1) (by rw [h0.2.2]; exact hc2) (fun _ _ _ => rfl) (fun a => by rw [h0.2.1, h0.2.2]; exact k a)
theorem jm_Nl {Y' : jm_Y} {idx np : Nat} {host : String} {avs rest : List Value} {m' : Option Int64} {f : Int64 → Option α} (hM : jm_Sim Y' 0 0 0 (lv_args 0 avs) [] n mr σ m' (jm_rL n mr σ)) (ho : jm_ok Y' np) (h0 : jm_l0 Y Y') (hl : ((jm_nm Y).cls, idx, jm_nm Y', host) ∈ jm_nest) (hs : Cond.static (jm_nm Y') ∈ jm_tbl) (hd : decode (jm_cd Y) pc = .ok (.invokestatic idx, 3)) (hst : st = avs.reverse ++ rest) (hnp : avs.length = np) (hlen : (lg_sl avs).length ≤ jm_ml Y') (hrs : (rest.map fun v => v.category).sum ≤ 8) (hc1 : ce ≤ (jm_rm Y).cells) (hc2 : sl ≤ (jm_rm Y).slots) (k : ∀ x, jm_Sim Y ce sl (pc + 3) L (.long x :: rest) n mr σ (f x) ρ) : jm_Sim Y ce sl pc L st n mr σ (jm_bd m' f) ρ :=
  jm_runSN hM ho h0.1 hl hs hd hst hnp hlen hrs (by rw [h0.2.1]; exact hc1) (by rw [h0.2.2]; exact hc2) (fun _ _ _ => rfl) (fun a => by rw [h0.2.1, h0.2.2]; exact k a)
theorem jm_Vl {Y' : jm_Y} {idx np i ci : Nat} {q : vw_C} {avs rest : List Value} {m' : Option Int64} {f : Int64 → Option α} (hM : jm_Sim Y' 0 0 0 (lv_args 0 (.ref i :: avs)) [] n mr σ m' (jm_rL n mr σ)) (ho : jm_ok Y' np) (h0 : jm_l0 Y Y') (hl : Cond.methodLink (jm_nm Y).cls idx (jm_nm Y') ∈ jm_tbl) (hi : Cond.instanceMethod (jm_nm Y') ∈ jm_tbl) (hse : Cond.selects (jm_nm Y').cls (jm_nm Y') (jm_nm Y') ∈ jm_tbl) (hd : decode (jm_cd Y) pc = .ok (.invokevirtual idx, 3)) (hst : st = avs.reverse ++ .ref i :: rest) (hsh : jm_sh i = .inr ci) (hq : vwCl[ci]? = some q) (hqc : q.1 = (jm_nm Y').cls) (h1 : 1 ≤ i) (h2 : i ≤ n) (hnp : avs.length = np) (hlen : (lg_sl (.ref i :: avs)).length ≤ jm_ml Y') (hrs : (rest.map fun v => v.category).sum ≤ 8) (hc1 : ce ≤ (jm_rm Y).cells) (hc2 : sl ≤ (jm_rm Y).slots) (k : ∀ x, jm_Sim Y ce sl (pc + 3) L (.long x :: rest) n mr σ (f x) ρ) : jm_Sim Y ce sl pc L st n mr σ (jm_bd m' f) ρ :=
  jm_runV hM ho h0.1 hl hi hse hd hst hsh hq hqc h1 h2 hnp hlen hrs (by rw [h0.2.1]; exact hc1) (by rw [h0.2.2]; exact hc2) (fun _ _ _ => rfl) (fun a => by rw [h0.2.1, h0.2.2]; exact k a)
theorem jm_Si {Y' : jm_Y} {idx np : Nat} {avs rest : List Value} {m' : Option (Int32 × jm_M)} {f : Int32 → jm_M → Option α} (hM : jm_Sim Y' 0 0 0 (lv_args 0 avs) [] n mr σ m' (jm_rP n mr)) (ho : jm_ok Y' np) (h0 : jm_l0 Y Y') (hl : Cond.methodLink (jm_nm Y).cls idx (jm_nm Y') ∈ jm_tbl) (hs : Cond.static (jm_nm Y') ∈ jm_tbl) (hd : decode (jm_cd Y) pc = .ok (.invokestatic idx, 3)) (hst : st = avs.reverse ++ rest) (hnp : avs.length = np) (hlen : (lg_sl avs).length ≤ jm_ml Y') (hrs : (rest.map fun v => v.category).sum ≤ 8) (hc1 : ce ≤ (jm_rm Y).cells) (hc2 : sl ≤ (jm_rm Y).slots) (k : ∀ x s1, jm_Sim Y ce sl (pc + 3) L (.int x :: rest) n mr s1 (f x s1) ρ) : jm_Sim Y ce sl pc L st n mr σ (jm_b2 m' f) ρ :=
  jm_runS (f := fun z => f z.1 z.2) hM ho h0.1 hl hs hd hst hnp hlen hrs (by rw [h0.2.1]; exact hc1) (by rw [h0.2.2]; exact hc2) (fun _ _ _ => rfl) (fun a => by rw [h0.2.1, h0.2.2]; exact k a.1 a.2)
theorem jm_Ni {Y' : jm_Y} {idx np : Nat} {host : String} {avs rest : List Value} {m' : Option (Int32 × jm_M)} {f : Int32 → jm_M → Option α} (hM : jm_Sim Y' 0 0 0 (lv_args 0 avs) [] n mr σ m' (jm_rP n mr)) (ho : jm_ok Y' np) (h0 : jm_l0 Y Y') (hl : ((jm_nm Y).cls, idx, jm_nm Y', host) ∈ jm_nest) (hs : Cond.static (jm_nm Y') ∈ jm_tbl) (hd : decode (jm_cd Y) pc = .ok (.invokestatic idx, 3)) (hst : st = avs.reverse ++ rest) (hnp : avs.length = np) (hlen : (lg_sl avs).length ≤ jm_ml Y') (hrs : (rest.map fun v => v.category).sum ≤ 8) (hc1 : ce ≤ (jm_rm Y).cells) (hc2 : sl ≤ (jm_rm Y).slots) (k : ∀ x s1, jm_Sim Y ce sl (pc + 3) L (.int x :: rest) n mr s1 (f x s1) ρ) : jm_Sim Y ce sl pc L st n mr σ (jm_b2 m' f) ρ :=
  jm_runSN (f := fun z => f z.1 z.2) hM ho h0.1 hl hs hd hst hnp hlen hrs (by rw [h0.2.1]; exact hc1) (by rw [h0.2.2]; exact hc2) (fun _ _ _ => rfl) (fun a => by rw [h0.2.1, h0.2.2]; exact k a.1 a.2)
theorem jm_Vi {Y' : jm_Y} {idx np i ci : Nat} {q : vw_C} {avs rest : List Value} {m' : Option (Int32 × jm_M)} {f : Int32 → jm_M → Option α} (hM : jm_Sim Y' 0 0 0 (lv_args 0 (.ref i :: avs)) [] n mr σ m' (jm_rP n mr)) (ho : jm_ok Y' np) (h0 : jm_l0 Y Y') (hl : Cond.methodLink (jm_nm Y).cls idx (jm_nm Y') ∈ jm_tbl) (hi : Cond.instanceMethod (jm_nm Y') ∈ jm_tbl) (hse : Cond.selects (jm_nm Y').cls (jm_nm Y') (jm_nm Y') ∈ jm_tbl) (hd : decode (jm_cd Y) pc = .ok (.invokevirtual idx, 3)) (hst : st = avs.reverse ++ .ref i :: rest) (hsh : jm_sh i = .inr ci) (hq : vwCl[ci]? = some q) (hqc : q.1 = (jm_nm Y').cls) (h1 : 1 ≤ i) (h2 : i ≤ n) (hnp : avs.length = np) (hlen : (lg_sl (.ref i :: avs)).length ≤ jm_ml Y') (hrs : (rest.map fun v => v.category).sum ≤ 8) (hc1 : ce ≤ (jm_rm Y).cells) (hc2 : sl ≤ (jm_rm Y).slots) (k : ∀ x s1, jm_Sim Y ce sl (pc + 3) L (.int x :: rest) n mr s1 (f x s1) ρ) : jm_Sim Y ce sl pc L st n mr σ (jm_b2 m' f) ρ :=
  jm_runV (f := fun z => f z.1 z.2) hM ho h0.1 hl hi hse hd hst hsh hq hqc h1 h2 hnp hlen hrs (by rw [h0.2.1]; exact hc1) (by rw [h0.2.2]; exact hc2) (fun _ _ _ => rfl) (fun a => by rw [h0.2.1, h0.2.2]; exact k a.1 a.2)
theorem jm_Sv {Y' : jm_Y} {idx np : Nat} {avs rest : List Value} {m' : Option jm_M} {f : jm_M → Option α} (hM : jm_Sim Y' 0 0 0 (lv_args 0 avs) [] n mr σ m' (jm_rV n mr)) (ho : jm_ok Y' np) (h0 : jm_l0 Y Y') (hl : Cond.methodLink (jm_nm Y).cls idx (jm_nm Y') ∈ jm_tbl) (hs : Cond.static (jm_nm Y') ∈ jm_tbl) (hd : decode (jm_cd Y) pc = .ok (.invokestatic idx, 3)) (hst : st = avs.reverse ++ rest) (hnp : avs.length = np) (hlen : (lg_sl avs).length ≤ jm_ml Y') (hrs : (rest.map fun v => v.category).sum ≤ 8) (hc1 : ce ≤ (jm_rm Y).cells) (hc2 : sl ≤ (jm_rm Y).slots) (k : ∀ s1, jm_Sim Y ce sl (pc + 3) L rest n mr s1 (f s1) ρ) : jm_Sim Y ce sl pc L st n mr σ (jm_bd m' f) ρ :=
  jm_runS hM ho h0.1 hl hs hd hst hnp hlen hrs (by rw [h0.2.1]; exact hc1) (by rw [h0.2.2]; exact hc2) (fun _ _ _ => rfl) (fun a => by rw [h0.2.1, h0.2.2]; exact k a)
theorem jm_Nv {Y' : jm_Y} {idx np : Nat} {host : String} {avs rest : List Value} {m' : Option jm_M} {f : jm_M → Option α} (hM : jm_Sim Y' 0 0 0 (lv_args 0 avs) [] n mr σ m' (jm_rV n mr)) (ho : jm_ok Y' np) (h0 : jm_l0 Y Y') (hl : ((jm_nm Y).cls, idx, jm_nm Y', host) ∈ jm_nest) (hs : Cond.static (jm_nm Y') ∈ jm_tbl) (hd : decode (jm_cd Y) pc = .ok (.invokestatic idx, 3)) (hst : st = avs.reverse ++ rest) (hnp : avs.length = np) (hlen : (lg_sl avs).length ≤ jm_ml Y') (hrs : (rest.map fun v => v.category).sum ≤ 8) (hc1 : ce ≤ (jm_rm Y).cells) (hc2 : sl ≤ (jm_rm Y).slots) (k : ∀ s1, jm_Sim Y ce sl (pc + 3) L rest n mr s1 (f s1) ρ) : jm_Sim Y ce sl pc L st n mr σ (jm_bd m' f) ρ :=
  jm_runSN hM ho h0.1 hl hs hd hst hnp hlen hrs (by rw [h0.2.1]; exact hc1) (by rw [h0.2.2]; exact hc2) (fun _ _ _ => rfl) (fun a => by rw [h0.2.1, h0.2.2]; exact k a)
theorem jm_Vv {Y' : jm_Y} {idx np i ci : Nat} {q : vw_C} {avs rest : List Value} {m' : Option jm_M} {f : jm_M → Option α} (hM : jm_Sim Y' 0 0 0 (lv_args 0 (.ref i :: avs)) [] n mr σ m' (jm_rV n mr)) (ho : jm_ok Y' np) (h0 : jm_l0 Y Y') (hl : Cond.methodLink (jm_nm Y).cls idx (jm_nm Y') ∈ jm_tbl) (hi : Cond.instanceMethod (jm_nm Y') ∈ jm_tbl) (hse : Cond.selects (jm_nm Y').cls (jm_nm Y') (jm_nm Y') ∈ jm_tbl) (hd : decode (jm_cd Y) pc = .ok (.invokevirtual idx, 3)) (hst : st = avs.reverse ++ .ref i :: rest) (hsh : jm_sh i = .inr ci) (hq : vwCl[ci]? = some q) (hqc : q.1 = (jm_nm Y').cls) (h1 : 1 ≤ i) (h2 : i ≤ n) (hnp : avs.length = np) (hlen : (lg_sl (.ref i :: avs)).length ≤ jm_ml Y') (hrs : (rest.map fun v => v.category).sum ≤ 8) (hc1 : ce ≤ (jm_rm Y).cells) (hc2 : sl ≤ (jm_rm Y).slots) (k : ∀ s1, jm_Sim Y ce sl (pc + 3) L rest n mr s1 (f s1) ρ) : jm_Sim Y ce sl pc L st n mr σ (jm_bd m' f) ρ :=
  jm_runV hM ho h0.1 hl hi hse hd hst hsh hq hqc h1 h2 hnp hlen hrs (by rw [h0.2.1]; exact hc1) (by rw [h0.2.2]; exact hc2) (fun _ _ _ => rfl) (fun a => by rw [h0.2.1, h0.2.2]; exact k a)
end JK
end
section
/-! references, as they stand through the makings -/
def mr_0 : jm_R := fun _ _ => none
def mr_1 : jm_R := jm_zr mr_0 1
def mr_2 : jm_R := jm_zr mr_1 2
def mr_3 : jm_R := jm_sr mr_2 1 0 2
def mr_4 : jm_R := jm_zr mr_3 3
def mr_5 : jm_R := jm_zr mr_4 4
def mr_6 : jm_R := jm_sr mr_5 3 0 4
def mr_7 : jm_R := jm_sr mr_6 1 2 3
def mr_8 : jm_R := jm_zr mr_7 5
def mr_9 : jm_R := jm_zr mr_8 6
def mr_10 : jm_R := jm_sr mr_9 5 1 6
def mr_11 : jm_R := jm_zr mr_10 7
def mr_12 : jm_R := jm_sr mr_11 5 2 7
def mr_13 : jm_R := jm_zr mr_12 8
def mr_14 : jm_R := jm_sr mr_13 5 3 8
def mr_15 : jm_R := jm_zr mr_14 9
def mr_16 : jm_R := jm_sr mr_15 5 4 9
def mr_17 : jm_R := jm_zr mr_16 10
def mr_18 : jm_R := jm_sr mr_17 5 5 10
def mr_19 : jm_R := jm_zr mr_18 11
def mr_20 : jm_R := jm_sr mr_19 5 6 11
def mr_21 : jm_R := jm_zr mr_20 12
def mr_22 : jm_R := jm_sr mr_21 5 7 12
def mr_23 : jm_R := jm_zr mr_22 13
def mr_24 : jm_R := jm_sr mr_23 5 8 13
def mr_25 : jm_R := jm_zr mr_24 14
def mr_26 : jm_R := jm_sr mr_25 5 9 14
def mr_27 : jm_R := jm_sr mr_26 1 3 5
def mr_28 : jm_R := jm_zr mr_27 15
def mr_29 : jm_R := jm_zr mr_28 16
def mr_30 : jm_R := jm_sr mr_29 15 1 16
def mr_31 : jm_R := jm_zr mr_30 17
def mr_32 : jm_R := jm_sr mr_31 15 2 17
def mr_33 : jm_R := jm_zr mr_32 18
def mr_34 : jm_R := jm_sr mr_33 15 3 18
def mr_35 : jm_R := jm_zr mr_34 19
def mr_36 : jm_R := jm_sr mr_35 15 4 19
def mr_37 : jm_R := jm_zr mr_36 20
def mr_38 : jm_R := jm_sr mr_37 15 5 20
def mr_39 : jm_R := jm_zr mr_38 21
def mr_40 : jm_R := jm_sr mr_39 15 6 21
def mr_41 : jm_R := jm_zr mr_40 22
def mr_42 : jm_R := jm_sr mr_41 15 7 22
def mr_43 : jm_R := jm_zr mr_42 23
def mr_44 : jm_R := jm_sr mr_43 15 8 23
def mr_45 : jm_R := jm_zr mr_44 24
def mr_46 : jm_R := jm_sr mr_45 15 9 24
def mr_47 : jm_R := jm_sr mr_46 1 4 15
def mr_48 : jm_R := jm_zr mr_47 25
def mr_49 : jm_R := jm_zr mr_48 26
def mr_50 : jm_R := jm_sr mr_49 25 1 26
def mr_51 : jm_R := jm_zr mr_50 27
def mr_52 : jm_R := jm_sr mr_51 25 2 27
def mr_53 : jm_R := jm_zr mr_52 28
def mr_54 : jm_R := jm_sr mr_53 25 3 28
def mr_55 : jm_R := jm_zr mr_54 29
def mr_56 : jm_R := jm_sr mr_55 25 4 29
def mr_57 : jm_R := jm_zr mr_56 30
def mr_58 : jm_R := jm_sr mr_57 25 5 30
def mr_59 : jm_R := jm_zr mr_58 31
def mr_60 : jm_R := jm_sr mr_59 25 6 31
def mr_61 : jm_R := jm_zr mr_60 32
def mr_62 : jm_R := jm_sr mr_61 25 7 32
def mr_63 : jm_R := jm_zr mr_62 33
def mr_64 : jm_R := jm_sr mr_63 25 8 33
def mr_65 : jm_R := jm_zr mr_64 34
def mr_66 : jm_R := jm_sr mr_65 25 9 34
def mr_67 : jm_R := jm_sr mr_66 1 5 25
def mr_68 : jm_R := jm_zr mr_67 35
def mr_69 : jm_R := jm_zr mr_68 36
def mr_70 : jm_R := jm_sr mr_69 35 1 36
def mr_71 : jm_R := jm_zr mr_70 37
def mr_72 : jm_R := jm_sr mr_71 35 2 37
def mr_73 : jm_R := jm_zr mr_72 38
def mr_74 : jm_R := jm_sr mr_73 35 3 38
def mr_75 : jm_R := jm_zr mr_74 39
def mr_76 : jm_R := jm_sr mr_75 35 4 39
def mr_77 : jm_R := jm_zr mr_76 40
def mr_78 : jm_R := jm_sr mr_77 35 5 40
def mr_79 : jm_R := jm_zr mr_78 41
def mr_80 : jm_R := jm_sr mr_79 35 6 41
def mr_81 : jm_R := jm_zr mr_80 42
def mr_82 : jm_R := jm_sr mr_81 35 7 42
def mr_83 : jm_R := jm_zr mr_82 43
def mr_84 : jm_R := jm_sr mr_83 35 8 43
def mr_85 : jm_R := jm_zr mr_84 44
def mr_86 : jm_R := jm_sr mr_85 35 9 44
def mr_87 : jm_R := jm_sr mr_86 1 6 35
def mr_88 : jm_R := jm_zr mr_87 45
def mr_89 : jm_R := jm_zr mr_88 46
def mr_90 : jm_R := jm_sr mr_89 45 0 46
def mr_91 : jm_R := jm_zr mr_90 47
def mr_92 : jm_R := jm_sr mr_91 45 2 47
def mr_93 : jm_R := jm_sr mr_92 1 8 45
def mr_94 : jm_R := jm_zr mr_93 48
def mr_95 : jm_R := jm_zr mr_94 49
def mr_96 : jm_R := jm_sr mr_95 48 5 49
def mr_97 : jm_R := jm_zr mr_96 50
def mr_98 : jm_R := jm_sr mr_97 48 6 50
def mr_99 : jm_R := jm_zr mr_98 51
def mr_100 : jm_R := jm_sr mr_99 48 7 51
def mr_101 : jm_R := jm_zr mr_100 52
def mr_102 : jm_R := jm_sr mr_101 48 8 52
def mr_103 : jm_R := jm_sr mr_102 1 10 48
def mr_104 : jm_R := jm_zr mr_103 53
def mr_105 : jm_R := jm_zr mr_104 54
def mr_106 : jm_R := jm_sr mr_105 53 0 54
def mr_107 : jm_R := jm_sr mr_106 1 11 53
def mr_108 : jm_R := jm_zr mr_107 55
def mr_109 : jm_R := jm_zr mr_108 56
def mr_110 : jm_R := jm_sr mr_109 55 0 56
def mr_111 : jm_R := jm_sr mr_110 1 12 55
def mr_112 : jm_R := jm_zr mr_111 57
def mr_113 : jm_R := jm_zr mr_112 58
def mr_114 : jm_R := jm_sr mr_113 57 0 58
def mr_115 : jm_R := jm_sr mr_114 1 13 57
def mr_116 : jm_R := jm_zr mr_115 59
def mr_117 : jm_R := jm_zr mr_116 60
def mr_118 : jm_R := jm_sr mr_117 59 1 60
def mr_119 : jm_R := jm_zr mr_118 61
def mr_120 : jm_R := jm_sr mr_119 59 2 61
def mr_121 : jm_R := jm_zr mr_120 62
def mr_122 : jm_R := jm_sr mr_121 59 3 62
def mr_123 : jm_R := jm_zr mr_122 63
def mr_124 : jm_R := jm_sr mr_123 59 4 63
def mr_125 : jm_R := jm_zr mr_124 64
def mr_126 : jm_R := jm_sr mr_125 59 5 64
def mr_127 : jm_R := jm_zr mr_126 65
def mr_128 : jm_R := jm_sr mr_127 59 6 65
def mr_129 : jm_R := jm_zr mr_128 66
def mr_130 : jm_R := jm_sr mr_129 59 7 66
def mr_131 : jm_R := jm_zr mr_130 67
def mr_132 : jm_R := jm_sr mr_131 59 8 67
def mr_133 : jm_R := jm_zr mr_132 68
def mr_134 : jm_R := jm_sr mr_133 59 9 68
def mr_135 : jm_R := jm_zr mr_134 69
def mr_136 : jm_R := jm_sr mr_135 59 10 69
def mr_137 : jm_R := jm_zr mr_136 70
def mr_138 : jm_R := jm_sr mr_137 59 11 70
def mr_139 : jm_R := jm_zr mr_138 71
def mr_140 : jm_R := jm_sr mr_139 59 13 71
def mr_141 : jm_R := jm_zr mr_140 72
def mr_142 : jm_R := jm_sr mr_141 59 14 72
def mr_143 : jm_R := jm_zr mr_142 73
def mr_144 : jm_R := jm_sr mr_143 59 16 73
def mr_145 : jm_R := jm_zr mr_144 74
def mr_146 : jm_R := jm_sr mr_145 59 20 74
def mr_147 : jm_R := jm_zr mr_146 75
def mr_148 : jm_R := jm_sr mr_147 59 21 75
def mr_149 : jm_R := jm_zr mr_148 76
def mr_150 : jm_R := jm_sr mr_149 59 27 76
def mr_151 : jm_R := jm_zr mr_150 77
def mr_152 : jm_R := jm_sr mr_151 59 28 77
def mr_153 : jm_R := jm_zr mr_152 78
def mr_154 : jm_R := jm_sr mr_153 59 29 78
/-! facts of methods, fields, cells, constants -/
def mY_Law (L : Nat) (xs : Nat → Int32) : jm_Y := (⟨"LyingBeaconsLaw", "law", "([I)Z"⟩, code, 4, some .boolean, room_1, some (L, xs))
def mY_X_init : jm_Y := (⟨"LyingBeacons", "<init>", "()V"⟩, prog_1_method_1_code, 1, none, { frames := 2, cells := 57, slots := 1324, locals := 41 }, none)
theorem cw_X_init : Cond.code (jm_nm mY_X_init) (jm_cd mY_X_init) (jm_ml mY_X_init) (jm_rt mY_X_init) ∈ jm_tbl := jm_in (List.mem_of_getElem? (i := 79) (by decide +kernel)) rfl
theorem ini_X : Cond.initialized "LyingBeacons" ∈ jm_tbl := jm_in (List.mem_of_getElem? (i := 63) (by decide +kernel)) rfl
theorem ok_X_init : jm_ok mY_X_init 0 := ⟨by decide, rfl, cw_X_init, ini_X, by decide +kernel⟩
theorem oi_im : Cond.instanceMethod Lib.objectInit ∈ jm_tbl := jm_in (List.mem_of_getElem? (i := 81) (by decide +kernel)) rfl
theorem oi_cd : Cond.code Lib.objectInit ⟨#[0xb1]⟩ 1 none ∈ jm_tbl := jm_in (List.mem_of_getElem? (i := 82) (by decide +kernel)) rfl
theorem mlo_X_3 : Cond.methodLink "LyingBeacons" 3 Lib.objectInit ∈ jm_tbl := jm_in (List.mem_of_getElem? (i := 80) (by decide +kernel)) rfl
theorem cs_300 : (Int16.ofInt 300).toInt32 = (300 : Int32) := by decide
theorem fo_X_9 : jm_fo "LyingBeacons" 9 7 0 RX8 TX8 14 := ⟨inY8, rfl, by decide, jm_in (List.mem_of_getElem? (i := 285) (by decide +kernel)) rfl⟩
theorem fp_X_9 : jm_fp "LyingBeacons" 9 7 0 RX8 TX8 14 true (.array .byte) := ⟨fo_X_9, ⟨tyX8, tyX8_ok⟩, nmX8, rfl, by decide +kernel, fun h => by first | rfl | cases h⟩
theorem sh_1 : jm_sh 1 = .inr 7 := rfl
theorem ge_1 : 1 ≤ 1 := by decide
theorem le_1_2 : 1 ≤ 2 := by decide
theorem ge_2 : 1 ≤ 2 := by decide
theorem ci_0 : Int32.ofInt 0 = (0 : Int32) := by decide
theorem fo_X_13 : jm_fo "LyingBeacons" 13 7 1 RX8 TX8 14 := ⟨inY8, rfl, by decide, jm_in (List.mem_of_getElem? (i := 286) (by decide +kernel)) rfl⟩
theorem fp_X_13 : jm_fp "LyingBeacons" 13 7 1 RX8 TX8 14 false .int := ⟨fo_X_13, ⟨tyX8, tyX8_ok⟩, nmX8, rfl, by decide +kernel, fun h => by first | rfl | cases h⟩
def mY_Re_init : jm_Y := (⟨"LyingBeacons$Reader", "<init>", "()V"⟩, prog_7_method_1_code, 1, none, { frames := 1, cells := 1, slots := 4, locals := 20 }, none)
theorem cw_Re_init : Cond.code (jm_nm mY_Re_init) (jm_cd mY_Re_init) (jm_ml mY_Re_init) (jm_rt mY_Re_init) ∈ jm_tbl := jm_in (List.mem_of_getElem? (i := 87) (by decide +kernel)) rfl
theorem ini_Re : Cond.initialized "LyingBeacons$Reader" ∈ jm_tbl := jm_in (List.mem_of_getElem? (i := 64) (by decide +kernel)) rfl
theorem ok_Re_init : jm_ok mY_Re_init 0 := ⟨by decide, rfl, cw_Re_init, ini_Re, by decide +kernel⟩
theorem mlo_Re_3 : Cond.methodLink "LyingBeacons$Reader" 3 Lib.objectInit ∈ jm_tbl := jm_in (List.mem_of_getElem? (i := 88) (by decide +kernel)) rfl
theorem ci_4 : Int32.ofInt 4 = (4 : Int32) := by decide
theorem fo_Re_11 : jm_fo "LyingBeacons$Reader" 11 4 0 RX5 TX5 7 := ⟨inY5, rfl, by decide, jm_in (List.mem_of_getElem? (i := 89) (by decide +kernel)) rfl⟩
theorem fp_Re_11 : jm_fp "LyingBeacons$Reader" 11 4 0 RX5 TX5 7 true (.array .int) := ⟨fo_Re_11, ⟨tyX5, tyX5_ok⟩, nmX5, rfl, by decide +kernel, fun h => by first | rfl | cases h⟩
theorem sh_3 : jm_sh 3 = .inr 4 := rfl
theorem ge_3 : 1 ≤ 3 := by decide
theorem le_3_4 : 3 ≤ 4 := by decide
theorem ge_4 : 1 ≤ 4 := by decide
theorem fo_Re_15 : jm_fo "LyingBeacons$Reader" 15 4 1 RX5 TX5 7 := ⟨inY5, rfl, by decide, jm_in (List.mem_of_getElem? (i := 90) (by decide +kernel)) rfl⟩
theorem fp_Re_15 : jm_fp "LyingBeacons$Reader" 15 4 1 RX5 TX5 7 false .int := ⟨fo_Re_15, ⟨tyX5, tyX5_ok⟩, nmX5, rfl, by decide +kernel, fun h => by first | rfl | cases h⟩
theorem fo_Re_19 : jm_fo "LyingBeacons$Reader" 19 4 2 RX5 TX5 7 := ⟨inY5, rfl, by decide, jm_in (List.mem_of_getElem? (i := 91) (by decide +kernel)) rfl⟩
theorem fp_Re_19 : jm_fp "LyingBeacons$Reader" 19 4 2 RX5 TX5 7 false .int := ⟨fo_Re_19, ⟨tyX5, tyX5_ok⟩, nmX5, rfl, by decide +kernel, fun h => by first | rfl | cases h⟩
theorem fo_Re_22 : jm_fo "LyingBeacons$Reader" 22 4 3 RX5 TX5 7 := ⟨inY5, rfl, by decide, jm_in (List.mem_of_getElem? (i := 92) (by decide +kernel)) rfl⟩
theorem fp_Re_22 : jm_fp "LyingBeacons$Reader" 22 4 3 RX5 TX5 7 false .int := ⟨fo_Re_22, ⟨tyX5, tyX5_ok⟩, nmX5, rfl, by decide +kernel, fun h => by first | rfl | cases h⟩
theorem ci_1 : Int32.ofInt 1 = (1 : Int32) := by decide
theorem fo_Re_25 : jm_fo "LyingBeacons$Reader" 25 4 4 RX5 TX5 7 := ⟨inY5, rfl, by decide, jm_in (List.mem_of_getElem? (i := 93) (by decide +kernel)) rfl⟩
theorem fp_Re_25 : jm_fp "LyingBeacons$Reader" 25 4 4 RX5 TX5 7 false .boolean := ⟨fo_Re_25, ⟨tyX5, tyX5_ok⟩, nmX5, rfl, by decide +kernel, fun h => by first | rfl | cases h⟩
theorem fo_Re_29 : jm_fo "LyingBeacons$Reader" 29 4 5 RX5 TX5 7 := ⟨inY5, rfl, by decide, jm_in (List.mem_of_getElem? (i := 94) (by decide +kernel)) rfl⟩
theorem fp_Re_29 : jm_fp "LyingBeacons$Reader" 29 4 5 RX5 TX5 7 false .int := ⟨fo_Re_29, ⟨tyX5, tyX5_ok⟩, nmX5, rfl, by decide +kernel, fun h => by first | rfl | cases h⟩
theorem fo_Re_32 : jm_fo "LyingBeacons$Reader" 32 4 6 RX5 TX5 7 := ⟨inY5, rfl, by decide, jm_in (List.mem_of_getElem? (i := 95) (by decide +kernel)) rfl⟩
theorem fp_Re_32 : jm_fp "LyingBeacons$Reader" 32 4 6 RX5 TX5 7 false .int := ⟨fo_Re_32, ⟨tyX5, tyX5_ok⟩, nmX5, rfl, by decide +kernel, fun h => by first | rfl | cases h⟩
theorem ac_int : Cond.arrayClass .int ∈ jm_tbl := jm_in (List.mem_of_getElem? (i := 112) (by decide +kernel)) rfl
theorem sh_4 : jm_sh 4 = .inl (.int, 4) := rfl
theorem lk_X_init__Re_init : jm_lk mY_X_init mY_Re_init := ⟨Nat.le_of_ble_eq_true rfl, Nat.le_of_ble_eq_true rfl⟩
theorem fo_X_20 : jm_fo "LyingBeacons" 20 7 2 RX8 TX8 14 := ⟨inY8, rfl, by decide, jm_in (List.mem_of_getElem? (i := 287) (by decide +kernel)) rfl⟩
theorem fp_X_20 : jm_fp "LyingBeacons" 20 7 2 RX8 TX8 14 true (.object "LyingBeacons$Reader") := ⟨fo_X_20, ⟨tyX8, tyX8_ok⟩, nmX8, rfl, by decide +kernel, fun h => by first | rfl | cases h⟩
theorem le_1_4 : 1 ≤ 4 := by decide
def mY_Ne_init : jm_Y := (⟨"LyingBeacons$Net", "<init>", "()V"⟩, prog_5_method_1_code, 1, none, { frames := 1, cells := 9, slots := 180, locals := 21 }, none)
theorem cw_Ne_init : Cond.code (jm_nm mY_Ne_init) (jm_cd mY_Ne_init) (jm_ml mY_Ne_init) (jm_rt mY_Ne_init) ∈ jm_tbl := jm_in (List.mem_of_getElem? (i := 117) (by decide +kernel)) rfl
theorem ini_Ne : Cond.initialized "LyingBeacons$Net" ∈ jm_tbl := jm_in (List.mem_of_getElem? (i := 65) (by decide +kernel)) rfl
theorem ok_Ne_init : jm_ok mY_Ne_init 0 := ⟨by decide, rfl, cw_Ne_init, ini_Ne, by decide +kernel⟩
theorem mlo_Ne_3 : Cond.methodLink "LyingBeacons$Net" 3 Lib.objectInit ∈ jm_tbl := jm_in (List.mem_of_getElem? (i := 118) (by decide +kernel)) rfl
theorem fo_Ne_9 : jm_fo "LyingBeacons$Net" 9 2 0 RX3 TX3 12 := ⟨inY3, rfl, by decide, jm_in (List.mem_of_getElem? (i := 123) (by decide +kernel)) rfl⟩
theorem fp_Ne_9 : jm_fp "LyingBeacons$Net" 9 2 0 RX3 TX3 12 false .int := ⟨fo_Ne_9, ⟨tyX3, tyX3_ok⟩, nmX3, rfl, by decide +kernel, fun h => by first | rfl | cases h⟩
theorem cb_10 : (Int8.ofInt 10).toInt32 = (10 : Int32) := by decide
theorem fo_Ne_15 : jm_fo "LyingBeacons$Net" 15 2 1 RX3 TX3 12 := ⟨inY3, rfl, by decide, jm_in (List.mem_of_getElem? (i := 126) (by decide +kernel)) rfl⟩
theorem fp_Ne_15 : jm_fp "LyingBeacons$Net" 15 2 1 RX3 TX3 12 true (.array .int) := ⟨fo_Ne_15, ⟨tyX3, tyX3_ok⟩, nmX3, rfl, by decide +kernel, fun h => by first | rfl | cases h⟩
theorem sh_5 : jm_sh 5 = .inr 2 := rfl
theorem ge_5 : 1 ≤ 5 := by decide
theorem le_5_6 : 5 ≤ 6 := by decide
theorem ge_6 : 1 ≤ 6 := by decide
theorem fo_Ne_19 : jm_fo "LyingBeacons$Net" 19 2 2 RX3 TX3 12 := ⟨inY3, rfl, by decide, jm_in (List.mem_of_getElem? (i := 132) (by decide +kernel)) rfl⟩
theorem fp_Ne_19 : jm_fp "LyingBeacons$Net" 19 2 2 RX3 TX3 12 true (.array .int) := ⟨fo_Ne_19, ⟨tyX3, tyX3_ok⟩, nmX3, rfl, by decide +kernel, fun h => by first | rfl | cases h⟩
theorem le_5_7 : 5 ≤ 7 := by decide
theorem ge_7 : 1 ≤ 7 := by decide
theorem fo_Ne_22 : jm_fo "LyingBeacons$Net" 22 2 3 RX3 TX3 12 := ⟨inY3, rfl, by decide, jm_in (List.mem_of_getElem? (i := 138) (by decide +kernel)) rfl⟩
theorem fp_Ne_22 : jm_fp "LyingBeacons$Net" 22 2 3 RX3 TX3 12 true (.array .int) := ⟨fo_Ne_22, ⟨tyX3, tyX3_ok⟩, nmX3, rfl, by decide +kernel, fun h => by first | rfl | cases h⟩
theorem le_5_8 : 5 ≤ 8 := by decide
theorem ge_8 : 1 ≤ 8 := by decide
theorem fo_Ne_25 : jm_fo "LyingBeacons$Net" 25 2 4 RX3 TX3 12 := ⟨inY3, rfl, by decide, jm_in (List.mem_of_getElem? (i := 144) (by decide +kernel)) rfl⟩
theorem fp_Ne_25 : jm_fp "LyingBeacons$Net" 25 2 4 RX3 TX3 12 true (.array .int) := ⟨fo_Ne_25, ⟨tyX3, tyX3_ok⟩, nmX3, rfl, by decide +kernel, fun h => by first | rfl | cases h⟩
theorem le_5_9 : 5 ≤ 9 := by decide
theorem ge_9 : 1 ≤ 9 := by decide
theorem fo_Ne_28 : jm_fo "LyingBeacons$Net" 28 2 5 RX3 TX3 12 := ⟨inY3, rfl, by decide, jm_in (List.mem_of_getElem? (i := 150) (by decide +kernel)) rfl⟩
theorem fp_Ne_28 : jm_fp "LyingBeacons$Net" 28 2 5 RX3 TX3 12 true (.array .int) := ⟨fo_Ne_28, ⟨tyX3, tyX3_ok⟩, nmX3, rfl, by decide +kernel, fun h => by first | rfl | cases h⟩
theorem le_5_10 : 5 ≤ 10 := by decide
theorem ge_10 : 1 ≤ 10 := by decide
theorem fo_Ne_31 : jm_fo "LyingBeacons$Net" 31 2 6 RX3 TX3 12 := ⟨inY3, rfl, by decide, jm_in (List.mem_of_getElem? (i := 154) (by decide +kernel)) rfl⟩
theorem fp_Ne_31 : jm_fp "LyingBeacons$Net" 31 2 6 RX3 TX3 12 true (.array .int) := ⟨fo_Ne_31, ⟨tyX3, tyX3_ok⟩, nmX3, rfl, by decide +kernel, fun h => by first | rfl | cases h⟩
theorem le_5_11 : 5 ≤ 11 := by decide
theorem ge_11 : 1 ≤ 11 := by decide
theorem fo_Ne_34 : jm_fo "LyingBeacons$Net" 34 2 7 RX3 TX3 12 := ⟨inY3, rfl, by decide, jm_in (List.mem_of_getElem? (i := 157) (by decide +kernel)) rfl⟩
theorem fp_Ne_34 : jm_fp "LyingBeacons$Net" 34 2 7 RX3 TX3 12 true (.array .long) := ⟨fo_Ne_34, ⟨tyX3, tyX3_ok⟩, nmX3, rfl, by decide +kernel, fun h => by first | rfl | cases h⟩
theorem le_5_12 : 5 ≤ 12 := by decide
theorem ge_12 : 1 ≤ 12 := by decide
theorem fo_Ne_38 : jm_fo "LyingBeacons$Net" 38 2 8 RX3 TX3 12 := ⟨inY3, rfl, by decide, jm_in (List.mem_of_getElem? (i := 160) (by decide +kernel)) rfl⟩
theorem fp_Ne_38 : jm_fp "LyingBeacons$Net" 38 2 8 RX3 TX3 12 true (.array .long) := ⟨fo_Ne_38, ⟨tyX3, tyX3_ok⟩, nmX3, rfl, by decide +kernel, fun h => by first | rfl | cases h⟩
theorem le_5_13 : 5 ≤ 13 := by decide
theorem ge_13 : 1 ≤ 13 := by decide
theorem cb_100 : (Int8.ofInt 100).toInt32 = (100 : Int32) := by decide
theorem fo_Ne_41 : jm_fo "LyingBeacons$Net" 41 2 9 RX3 TX3 12 := ⟨inY3, rfl, by decide, jm_in (List.mem_of_getElem? (i := 163) (by decide +kernel)) rfl⟩
theorem fp_Ne_41 : jm_fp "LyingBeacons$Net" 41 2 9 RX3 TX3 12 true (.array .long) := ⟨fo_Ne_41, ⟨tyX3, tyX3_ok⟩, nmX3, rfl, by decide +kernel, fun h => by first | rfl | cases h⟩
theorem le_5_14 : 5 ≤ 14 := by decide
theorem ge_14 : 1 ≤ 14 := by decide
theorem fo_Ne_44 : jm_fo "LyingBeacons$Net" 44 2 10 RX3 TX3 12 := ⟨inY3, rfl, by decide, jm_in (List.mem_of_getElem? (i := 165) (by decide +kernel)) rfl⟩
theorem fp_Ne_44 : jm_fp "LyingBeacons$Net" 44 2 10 RX3 TX3 12 false .int := ⟨fo_Ne_44, ⟨tyX3, tyX3_ok⟩, nmX3, rfl, by decide +kernel, fun h => by first | rfl | cases h⟩
theorem cl_0 : Int64.ofNat ((0 : Fin 2) : Nat) = (0 : Int64) := by decide
theorem fo_Ne_47 : jm_fo "LyingBeacons$Net" 47 2 11 RX3 TX3 12 := ⟨inY3, rfl, by decide, jm_in (List.mem_of_getElem? (i := 168) (by decide +kernel)) rfl⟩
theorem fp_Ne_47 : jm_fp "LyingBeacons$Net" 47 2 11 RX3 TX3 12 false .long := ⟨fo_Ne_47, ⟨tyX3, tyX3_ok⟩, nmX3, rfl, by decide +kernel, fun h => by first | rfl | cases h⟩
def mY_Ne_clear : jm_Y := (⟨"LyingBeacons$Net", "clear", "()V"⟩, prog_5_method_2_code, 2, none, { frames := 0, cells := 0, slots := 0, locals := 0 }, none)
theorem cw_Ne_clear : Cond.code (jm_nm mY_Ne_clear) (jm_cd mY_Ne_clear) (jm_ml mY_Ne_clear) (jm_rt mY_Ne_clear) ∈ jm_tbl := jm_in (List.mem_of_getElem? (i := 122) (by decide +kernel)) rfl
theorem ok_Ne_clear : jm_ok mY_Ne_clear 0 := ⟨by decide, rfl, cw_Ne_clear, ini_Ne, by decide +kernel⟩
theorem mr_26_5_9 : mr_26 5 9 = some 14 := by decide
theorem sh_14 : jm_sh 14 = .inl (.long, 100) := rfl
theorem le_14_14 : 14 ≤ 14 := by decide
theorem mr_26_5_1 : mr_26 5 1 = some 6 := by decide
theorem ci_m1 : Int32.ofInt (-1) = (-1 : Int32) := by decide
theorem mr_26_5_2 : mr_26 5 2 = some 7 := by decide
theorem mr_26_5_3 : mr_26 5 3 = some 8 := by decide
theorem mr_26_5_4 : mr_26 5 4 = some 9 := by decide
theorem mr_26_5_5 : mr_26 5 5 = some 10 := by decide
theorem cb_99 : (Int8.ofInt 99).toInt32 = (99 : Int32) := by decide
theorem mr_26_5_6 : mr_26 5 6 = some 11 := by decide
theorem mr_26_5_7 : mr_26 5 7 = some 12 := by decide
theorem mr_26_5_8 : mr_26 5 8 = some 13 := by decide
theorem sh_13 : jm_sh 13 = .inl (.long, 10) := rfl
theorem le_13_14 : 13 ≤ 14 := by decide
theorem sh_12 : jm_sh 12 = .inl (.long, 10) := rfl
theorem le_12_14 : 12 ≤ 14 := by decide
theorem sh_11 : jm_sh 11 = .inl (.int, 10) := rfl
theorem le_11_14 : 11 ≤ 14 := by decide
theorem sh_10 : jm_sh 10 = .inl (.int, 10) := rfl
theorem le_10_14 : 10 ≤ 14 := by decide
theorem sh_9 : jm_sh 9 = .inl (.int, 10) := rfl
theorem le_9_14 : 9 ≤ 14 := by decide
theorem sh_8 : jm_sh 8 = .inl (.int, 10) := rfl
theorem le_8_14 : 8 ≤ 14 := by decide
theorem sh_7 : jm_sh 7 = .inl (.int, 10) := rfl
theorem le_7_14 : 7 ≤ 14 := by decide
theorem sh_6 : jm_sh 6 = .inl (.int, 10) := rfl
theorem le_6_14 : 6 ≤ 14 := by decide
theorem l0_Ne_init__Ne_clear : jm_l0 mY_Ne_init mY_Ne_clear := ⟨⟨Nat.le_of_ble_eq_true rfl, Nat.le_of_ble_eq_true rfl⟩, rfl, rfl⟩
theorem ml_Ne_51 : Cond.methodLink "LyingBeacons$Net" 51 ⟨"LyingBeacons$Net", "clear", "()V"⟩ ∈ jm_tbl := jm_in (List.mem_of_getElem? (i := 119) (by decide +kernel)) rfl
theorem im_Ne_clear : Cond.instanceMethod ⟨"LyingBeacons$Net", "clear", "()V"⟩ ∈ jm_tbl := jm_in (List.mem_of_getElem? (i := 120) (by decide +kernel)) rfl
theorem se_Ne_clear : Cond.selects "LyingBeacons$Net" ⟨"LyingBeacons$Net", "clear", "()V"⟩ ⟨"LyingBeacons$Net", "clear", "()V"⟩ ∈ jm_tbl := jm_in (List.mem_of_getElem? (i := 121) (by decide +kernel)) rfl
theorem ac_long : Cond.arrayClass .long ∈ jm_tbl := jm_in (List.mem_of_getElem? (i := 196) (by decide +kernel)) rfl
theorem le_5_5 : 5 ≤ 5 := by decide
theorem lk_X_init__Ne_init : jm_lk mY_X_init mY_Ne_init := ⟨Nat.le_of_ble_eq_true rfl, Nat.le_of_ble_eq_true rfl⟩
theorem fo_X_27 : jm_fo "LyingBeacons" 27 7 3 RX8 TX8 14 := ⟨inY8, rfl, by decide, jm_in (List.mem_of_getElem? (i := 288) (by decide +kernel)) rfl⟩
theorem fp_X_27 : jm_fp "LyingBeacons" 27 7 3 RX8 TX8 14 true (.object "LyingBeacons$Net") := ⟨fo_X_27, ⟨tyX8, tyX8_ok⟩, nmX8, rfl, by decide +kernel, fun h => by first | rfl | cases h⟩
theorem le_1_14 : 1 ≤ 14 := by decide
theorem sh_15 : jm_sh 15 = .inr 2 := rfl
theorem ge_15 : 1 ≤ 15 := by decide
theorem le_15_16 : 15 ≤ 16 := by decide
theorem ge_16 : 1 ≤ 16 := by decide
theorem le_15_17 : 15 ≤ 17 := by decide
theorem ge_17 : 1 ≤ 17 := by decide
theorem le_15_18 : 15 ≤ 18 := by decide
theorem ge_18 : 1 ≤ 18 := by decide
theorem le_15_19 : 15 ≤ 19 := by decide
theorem ge_19 : 1 ≤ 19 := by decide
theorem le_15_20 : 15 ≤ 20 := by decide
theorem ge_20 : 1 ≤ 20 := by decide
theorem le_15_21 : 15 ≤ 21 := by decide
theorem ge_21 : 1 ≤ 21 := by decide
theorem le_15_22 : 15 ≤ 22 := by decide
theorem ge_22 : 1 ≤ 22 := by decide
theorem le_15_23 : 15 ≤ 23 := by decide
theorem ge_23 : 1 ≤ 23 := by decide
theorem le_15_24 : 15 ≤ 24 := by decide
theorem ge_24 : 1 ≤ 24 := by decide
theorem mr_46_15_9 : mr_46 15 9 = some 24 := by decide
theorem sh_24 : jm_sh 24 = .inl (.long, 100) := rfl
theorem le_24_24 : 24 ≤ 24 := by decide
theorem mr_46_15_1 : mr_46 15 1 = some 16 := by decide
theorem mr_46_15_2 : mr_46 15 2 = some 17 := by decide
theorem mr_46_15_3 : mr_46 15 3 = some 18 := by decide
theorem mr_46_15_4 : mr_46 15 4 = some 19 := by decide
theorem mr_46_15_5 : mr_46 15 5 = some 20 := by decide
theorem mr_46_15_6 : mr_46 15 6 = some 21 := by decide
theorem mr_46_15_7 : mr_46 15 7 = some 22 := by decide
theorem mr_46_15_8 : mr_46 15 8 = some 23 := by decide
theorem sh_23 : jm_sh 23 = .inl (.long, 10) := rfl
theorem le_23_24 : 23 ≤ 24 := by decide
theorem sh_22 : jm_sh 22 = .inl (.long, 10) := rfl
theorem le_22_24 : 22 ≤ 24 := by decide
theorem sh_21 : jm_sh 21 = .inl (.int, 10) := rfl
theorem le_21_24 : 21 ≤ 24 := by decide
theorem sh_20 : jm_sh 20 = .inl (.int, 10) := rfl
theorem le_20_24 : 20 ≤ 24 := by decide
theorem sh_19 : jm_sh 19 = .inl (.int, 10) := rfl
theorem le_19_24 : 19 ≤ 24 := by decide
theorem sh_18 : jm_sh 18 = .inl (.int, 10) := rfl
theorem le_18_24 : 18 ≤ 24 := by decide
theorem sh_17 : jm_sh 17 = .inl (.int, 10) := rfl
theorem le_17_24 : 17 ≤ 24 := by decide
theorem sh_16 : jm_sh 16 = .inl (.int, 10) := rfl
theorem le_16_24 : 16 ≤ 24 := by decide
theorem le_15_15 : 15 ≤ 15 := by decide
theorem fo_X_31 : jm_fo "LyingBeacons" 31 7 4 RX8 TX8 14 := ⟨inY8, rfl, by decide, jm_in (List.mem_of_getElem? (i := 289) (by decide +kernel)) rfl⟩
theorem fp_X_31 : jm_fp "LyingBeacons" 31 7 4 RX8 TX8 14 true (.object "LyingBeacons$Net") := ⟨fo_X_31, ⟨tyX8, tyX8_ok⟩, nmX8, rfl, by decide +kernel, fun h => by first | rfl | cases h⟩
theorem le_1_24 : 1 ≤ 24 := by decide
theorem sh_25 : jm_sh 25 = .inr 2 := rfl
theorem ge_25 : 1 ≤ 25 := by decide
theorem le_25_26 : 25 ≤ 26 := by decide
theorem ge_26 : 1 ≤ 26 := by decide
theorem le_25_27 : 25 ≤ 27 := by decide
theorem ge_27 : 1 ≤ 27 := by decide
theorem le_25_28 : 25 ≤ 28 := by decide
theorem ge_28 : 1 ≤ 28 := by decide
theorem le_25_29 : 25 ≤ 29 := by decide
theorem ge_29 : 1 ≤ 29 := by decide
theorem le_25_30 : 25 ≤ 30 := by decide
theorem ge_30 : 1 ≤ 30 := by decide
theorem le_25_31 : 25 ≤ 31 := by decide
theorem ge_31 : 1 ≤ 31 := by decide
theorem le_25_32 : 25 ≤ 32 := by decide
theorem ge_32 : 1 ≤ 32 := by decide
theorem le_25_33 : 25 ≤ 33 := by decide
theorem ge_33 : 1 ≤ 33 := by decide
theorem le_25_34 : 25 ≤ 34 := by decide
theorem ge_34 : 1 ≤ 34 := by decide
theorem mr_66_25_9 : mr_66 25 9 = some 34 := by decide
theorem sh_34 : jm_sh 34 = .inl (.long, 100) := rfl
theorem le_34_34 : 34 ≤ 34 := by decide
theorem mr_66_25_1 : mr_66 25 1 = some 26 := by decide
theorem mr_66_25_2 : mr_66 25 2 = some 27 := by decide
theorem mr_66_25_3 : mr_66 25 3 = some 28 := by decide
theorem mr_66_25_4 : mr_66 25 4 = some 29 := by decide
theorem mr_66_25_5 : mr_66 25 5 = some 30 := by decide
theorem mr_66_25_6 : mr_66 25 6 = some 31 := by decide
theorem mr_66_25_7 : mr_66 25 7 = some 32 := by decide
theorem mr_66_25_8 : mr_66 25 8 = some 33 := by decide
theorem sh_33 : jm_sh 33 = .inl (.long, 10) := rfl
theorem le_33_34 : 33 ≤ 34 := by decide
theorem sh_32 : jm_sh 32 = .inl (.long, 10) := rfl
theorem le_32_34 : 32 ≤ 34 := by decide
theorem sh_31 : jm_sh 31 = .inl (.int, 10) := rfl
theorem le_31_34 : 31 ≤ 34 := by decide
theorem sh_30 : jm_sh 30 = .inl (.int, 10) := rfl
theorem le_30_34 : 30 ≤ 34 := by decide
theorem sh_29 : jm_sh 29 = .inl (.int, 10) := rfl
theorem le_29_34 : 29 ≤ 34 := by decide
theorem sh_28 : jm_sh 28 = .inl (.int, 10) := rfl
theorem le_28_34 : 28 ≤ 34 := by decide
theorem sh_27 : jm_sh 27 = .inl (.int, 10) := rfl
theorem le_27_34 : 27 ≤ 34 := by decide
theorem sh_26 : jm_sh 26 = .inl (.int, 10) := rfl
theorem le_26_34 : 26 ≤ 34 := by decide
theorem le_25_25 : 25 ≤ 25 := by decide
theorem fo_X_34 : jm_fo "LyingBeacons" 34 7 5 RX8 TX8 14 := ⟨inY8, rfl, by decide, jm_in (List.mem_of_getElem? (i := 290) (by decide +kernel)) rfl⟩
theorem fp_X_34 : jm_fp "LyingBeacons" 34 7 5 RX8 TX8 14 true (.object "LyingBeacons$Net") := ⟨fo_X_34, ⟨tyX8, tyX8_ok⟩, nmX8, rfl, by decide +kernel, fun h => by first | rfl | cases h⟩
theorem le_1_34 : 1 ≤ 34 := by decide
theorem sh_35 : jm_sh 35 = .inr 2 := rfl
theorem ge_35 : 1 ≤ 35 := by decide
theorem le_35_36 : 35 ≤ 36 := by decide
theorem ge_36 : 1 ≤ 36 := by decide
theorem le_35_37 : 35 ≤ 37 := by decide
theorem ge_37 : 1 ≤ 37 := by decide
theorem le_35_38 : 35 ≤ 38 := by decide
theorem ge_38 : 1 ≤ 38 := by decide
theorem le_35_39 : 35 ≤ 39 := by decide
theorem ge_39 : 1 ≤ 39 := by decide
theorem le_35_40 : 35 ≤ 40 := by decide
theorem ge_40 : 1 ≤ 40 := by decide
theorem le_35_41 : 35 ≤ 41 := by decide
theorem ge_41 : 1 ≤ 41 := by decide
theorem le_35_42 : 35 ≤ 42 := by decide
theorem ge_42 : 1 ≤ 42 := by decide
theorem le_35_43 : 35 ≤ 43 := by decide
theorem ge_43 : 1 ≤ 43 := by decide
theorem le_35_44 : 35 ≤ 44 := by decide
theorem ge_44 : 1 ≤ 44 := by decide
theorem mr_86_35_9 : mr_86 35 9 = some 44 := by decide
theorem sh_44 : jm_sh 44 = .inl (.long, 100) := rfl
theorem le_44_44 : 44 ≤ 44 := by decide
theorem mr_86_35_1 : mr_86 35 1 = some 36 := by decide
theorem mr_86_35_2 : mr_86 35 2 = some 37 := by decide
theorem mr_86_35_3 : mr_86 35 3 = some 38 := by decide
theorem mr_86_35_4 : mr_86 35 4 = some 39 := by decide
theorem mr_86_35_5 : mr_86 35 5 = some 40 := by decide
theorem mr_86_35_6 : mr_86 35 6 = some 41 := by decide
theorem mr_86_35_7 : mr_86 35 7 = some 42 := by decide
theorem mr_86_35_8 : mr_86 35 8 = some 43 := by decide
theorem sh_43 : jm_sh 43 = .inl (.long, 10) := rfl
theorem le_43_44 : 43 ≤ 44 := by decide
theorem sh_42 : jm_sh 42 = .inl (.long, 10) := rfl
theorem le_42_44 : 42 ≤ 44 := by decide
theorem sh_41 : jm_sh 41 = .inl (.int, 10) := rfl
theorem le_41_44 : 41 ≤ 44 := by decide
theorem sh_40 : jm_sh 40 = .inl (.int, 10) := rfl
theorem le_40_44 : 40 ≤ 44 := by decide
theorem sh_39 : jm_sh 39 = .inl (.int, 10) := rfl
theorem le_39_44 : 39 ≤ 44 := by decide
theorem sh_38 : jm_sh 38 = .inl (.int, 10) := rfl
theorem le_38_44 : 38 ≤ 44 := by decide
theorem sh_37 : jm_sh 37 = .inl (.int, 10) := rfl
theorem le_37_44 : 37 ≤ 44 := by decide
theorem sh_36 : jm_sh 36 = .inl (.int, 10) := rfl
theorem le_36_44 : 36 ≤ 44 := by decide
theorem le_35_35 : 35 ≤ 35 := by decide
theorem fo_X_37 : jm_fo "LyingBeacons" 37 7 6 RX8 TX8 14 := ⟨inY8, rfl, by decide, jm_in (List.mem_of_getElem? (i := 291) (by decide +kernel)) rfl⟩
theorem fp_X_37 : jm_fp "LyingBeacons" 37 7 6 RX8 TX8 14 true (.object "LyingBeacons$Net") := ⟨fo_X_37, ⟨tyX8, tyX8_ok⟩, nmX8, rfl, by decide +kernel, fun h => by first | rfl | cases h⟩
theorem le_1_44 : 1 ≤ 44 := by decide
theorem fo_X_40 : jm_fo "LyingBeacons" 40 7 7 RX8 TX8 14 := ⟨inY8, rfl, by decide, jm_in (List.mem_of_getElem? (i := 292) (by decide +kernel)) rfl⟩
theorem fp_X_40 : jm_fp "LyingBeacons" 40 7 7 RX8 TX8 14 false .int := ⟨fo_X_40, ⟨tyX8, tyX8_ok⟩, nmX8, rfl, by decide +kernel, fun h => by first | rfl | cases h⟩
def mY_Ni_init : jm_Y := (⟨"LyingBeacons$Night", "<init>", "()V"⟩, prog_6_method_1_code, 1, none, { frames := 1, cells := 2, slots := 20, locals := 20 }, none)
theorem cw_Ni_init : Cond.code (jm_nm mY_Ni_init) (jm_cd mY_Ni_init) (jm_ml mY_Ni_init) (jm_rt mY_Ni_init) ∈ jm_tbl := jm_in (List.mem_of_getElem? (i := 201) (by decide +kernel)) rfl
theorem ini_Ni : Cond.initialized "LyingBeacons$Night" ∈ jm_tbl := jm_in (List.mem_of_getElem? (i := 66) (by decide +kernel)) rfl
theorem ok_Ni_init : jm_ok mY_Ni_init 0 := ⟨by decide, rfl, cw_Ni_init, ini_Ni, by decide +kernel⟩
theorem mlo_Ni_3 : Cond.methodLink "LyingBeacons$Night" 3 Lib.objectInit ∈ jm_tbl := jm_in (List.mem_of_getElem? (i := 202) (by decide +kernel)) rfl
theorem fo_Ni_9 : jm_fo "LyingBeacons$Night" 9 3 0 RX4 TX4 3 := ⟨inY4, rfl, by decide, jm_in (List.mem_of_getElem? (i := 203) (by decide +kernel)) rfl⟩
theorem fp_Ni_9 : jm_fp "LyingBeacons$Night" 9 3 0 RX4 TX4 3 true (.array .int) := ⟨fo_Ni_9, ⟨tyX4, tyX4_ok⟩, nmX4, rfl, by decide +kernel, fun h => by first | rfl | cases h⟩
theorem sh_45 : jm_sh 45 = .inr 3 := rfl
theorem ge_45 : 1 ≤ 45 := by decide
theorem le_45_46 : 45 ≤ 46 := by decide
theorem ge_46 : 1 ≤ 46 := by decide
theorem cb_m4 : (Int8.ofInt (-4)).toInt32 = (-4 : Int32) := by decide
theorem fo_Ni_15 : jm_fo "LyingBeacons$Night" 15 3 1 RX4 TX4 3 := ⟨inY4, rfl, by decide, jm_in (List.mem_of_getElem? (i := 205) (by decide +kernel)) rfl⟩
theorem fp_Ni_15 : jm_fp "LyingBeacons$Night" 15 3 1 RX4 TX4 3 false .int := ⟨fo_Ni_15, ⟨tyX4, tyX4_ok⟩, nmX4, rfl, by decide +kernel, fun h => by first | rfl | cases h⟩
theorem fo_Ni_19 : jm_fo "LyingBeacons$Night" 19 3 2 RX4 TX4 3 := ⟨inY4, rfl, by decide, jm_in (List.mem_of_getElem? (i := 207) (by decide +kernel)) rfl⟩
theorem fp_Ni_19 : jm_fp "LyingBeacons$Night" 19 3 2 RX4 TX4 3 true (.array .long) := ⟨fo_Ni_19, ⟨tyX4, tyX4_ok⟩, nmX4, rfl, by decide +kernel, fun h => by first | rfl | cases h⟩
theorem le_45_47 : 45 ≤ 47 := by decide
theorem ge_47 : 1 ≤ 47 := by decide
theorem sh_47 : jm_sh 47 = .inl (.long, 10) := rfl
theorem sh_46 : jm_sh 46 = .inl (.int, 10) := rfl
theorem lk_X_init__Ni_init : jm_lk mY_X_init mY_Ni_init := ⟨Nat.le_of_ble_eq_true rfl, Nat.le_of_ble_eq_true rfl⟩
theorem fo_X_46 : jm_fo "LyingBeacons" 46 7 8 RX8 TX8 14 := ⟨inY8, rfl, by decide, jm_in (List.mem_of_getElem? (i := 293) (by decide +kernel)) rfl⟩
theorem fp_X_46 : jm_fp "LyingBeacons" 46 7 8 RX8 TX8 14 true (.object "LyingBeacons$Night") := ⟨fo_X_46, ⟨tyX8, tyX8_ok⟩, nmX8, rfl, by decide +kernel, fun h => by first | rfl | cases h⟩
theorem le_1_47 : 1 ≤ 47 := by decide
theorem fo_X_50 : jm_fo "LyingBeacons" 50 7 9 RX8 TX8 14 := ⟨inY8, rfl, by decide, jm_in (List.mem_of_getElem? (i := 294) (by decide +kernel)) rfl⟩
theorem fp_X_50 : jm_fp "LyingBeacons" 50 7 9 RX8 TX8 14 false .boolean := ⟨fo_X_50, ⟨tyX8, tyX8_ok⟩, nmX8, rfl, by decide +kernel, fun h => by first | rfl | cases h⟩
def mY_Co_init : jm_Y := (⟨"LyingBeacons$Council", "<init>", "()V"⟩, prog_2_method_1_code, 1, none, { frames := 1, cells := 4, slots := 130, locals := 20 }, none)
theorem cw_Co_init : Cond.code (jm_nm mY_Co_init) (jm_cd mY_Co_init) (jm_ml mY_Co_init) (jm_rt mY_Co_init) ∈ jm_tbl := jm_in (List.mem_of_getElem? (i := 219) (by decide +kernel)) rfl
theorem ini_Co : Cond.initialized "LyingBeacons$Council" ∈ jm_tbl := jm_in (List.mem_of_getElem? (i := 67) (by decide +kernel)) rfl
theorem ok_Co_init : jm_ok mY_Co_init 0 := ⟨by decide, rfl, cw_Co_init, ini_Co, by decide +kernel⟩
theorem mlo_Co_3 : Cond.methodLink "LyingBeacons$Council" 3 Lib.objectInit ∈ jm_tbl := jm_in (List.mem_of_getElem? (i := 220) (by decide +kernel)) rfl
theorem fo_Co_9 : jm_fo "LyingBeacons$Council" 9 0 0 RX0 TX0 10 := ⟨inY0, rfl, by decide, jm_in (List.mem_of_getElem? (i := 221) (by decide +kernel)) rfl⟩
theorem fp_Co_9 : jm_fp "LyingBeacons$Council" 9 0 0 RX0 TX0 10 false .int := ⟨fo_Co_9, ⟨tyX0, tyX0_ok⟩, nmX0, rfl, by decide +kernel, fun h => by first | rfl | cases h⟩
theorem fo_Co_15 : jm_fo "LyingBeacons$Council" 15 0 1 RX0 TX0 10 := ⟨inY0, rfl, by decide, jm_in (List.mem_of_getElem? (i := 223) (by decide +kernel)) rfl⟩
theorem fp_Co_15 : jm_fp "LyingBeacons$Council" 15 0 1 RX0 TX0 10 false .int := ⟨fo_Co_15, ⟨tyX0, tyX0_ok⟩, nmX0, rfl, by decide +kernel, fun h => by first | rfl | cases h⟩
theorem fo_Co_18 : jm_fo "LyingBeacons$Council" 18 0 2 RX0 TX0 10 := ⟨inY0, rfl, by decide, jm_in (List.mem_of_getElem? (i := 225) (by decide +kernel)) rfl⟩
theorem fp_Co_18 : jm_fp "LyingBeacons$Council" 18 0 2 RX0 TX0 10 false .int := ⟨fo_Co_18, ⟨tyX0, tyX0_ok⟩, nmX0, rfl, by decide +kernel, fun h => by first | rfl | cases h⟩
theorem fo_Co_21 : jm_fo "LyingBeacons$Council" 21 0 3 RX0 TX0 10 := ⟨inY0, rfl, by decide, jm_in (List.mem_of_getElem? (i := 226) (by decide +kernel)) rfl⟩
theorem fp_Co_21 : jm_fp "LyingBeacons$Council" 21 0 3 RX0 TX0 10 false .int := ⟨fo_Co_21, ⟨tyX0, tyX0_ok⟩, nmX0, rfl, by decide +kernel, fun h => by first | rfl | cases h⟩
theorem fo_Co_24 : jm_fo "LyingBeacons$Council" 24 0 4 RX0 TX0 10 := ⟨inY0, rfl, by decide, jm_in (List.mem_of_getElem? (i := 227) (by decide +kernel)) rfl⟩
theorem fp_Co_24 : jm_fp "LyingBeacons$Council" 24 0 4 RX0 TX0 10 false .int := ⟨fo_Co_24, ⟨tyX0, tyX0_ok⟩, nmX0, rfl, by decide +kernel, fun h => by first | rfl | cases h⟩
theorem fo_Co_27 : jm_fo "LyingBeacons$Council" 27 0 5 RX0 TX0 10 := ⟨inY0, rfl, by decide, jm_in (List.mem_of_getElem? (i := 228) (by decide +kernel)) rfl⟩
theorem fp_Co_27 : jm_fp "LyingBeacons$Council" 27 0 5 RX0 TX0 10 true (.array .int) := ⟨fo_Co_27, ⟨tyX0, tyX0_ok⟩, nmX0, rfl, by decide +kernel, fun h => by first | rfl | cases h⟩
theorem sh_48 : jm_sh 48 = .inr 0 := rfl
theorem ge_48 : 1 ≤ 48 := by decide
theorem le_48_49 : 48 ≤ 49 := by decide
theorem ge_49 : 1 ≤ 49 := by decide
theorem fo_Co_31 : jm_fo "LyingBeacons$Council" 31 0 6 RX0 TX0 10 := ⟨inY0, rfl, by decide, jm_in (List.mem_of_getElem? (i := 229) (by decide +kernel)) rfl⟩
theorem fp_Co_31 : jm_fp "LyingBeacons$Council" 31 0 6 RX0 TX0 10 true (.array .int) := ⟨fo_Co_31, ⟨tyX0, tyX0_ok⟩, nmX0, rfl, by decide +kernel, fun h => by first | rfl | cases h⟩
theorem le_48_50 : 48 ≤ 50 := by decide
theorem ge_50 : 1 ≤ 50 := by decide
theorem fo_Co_34 : jm_fo "LyingBeacons$Council" 34 0 7 RX0 TX0 10 := ⟨inY0, rfl, by decide, jm_in (List.mem_of_getElem? (i := 230) (by decide +kernel)) rfl⟩
theorem fp_Co_34 : jm_fp "LyingBeacons$Council" 34 0 7 RX0 TX0 10 true (.array .int) := ⟨fo_Co_34, ⟨tyX0, tyX0_ok⟩, nmX0, rfl, by decide +kernel, fun h => by first | rfl | cases h⟩
theorem le_48_51 : 48 ≤ 51 := by decide
theorem ge_51 : 1 ≤ 51 := by decide
theorem fo_Co_37 : jm_fo "LyingBeacons$Council" 37 0 8 RX0 TX0 10 := ⟨inY0, rfl, by decide, jm_in (List.mem_of_getElem? (i := 231) (by decide +kernel)) rfl⟩
theorem fp_Co_37 : jm_fp "LyingBeacons$Council" 37 0 8 RX0 TX0 10 true (.array .int) := ⟨fo_Co_37, ⟨tyX0, tyX0_ok⟩, nmX0, rfl, by decide +kernel, fun h => by first | rfl | cases h⟩
theorem le_48_52 : 48 ≤ 52 := by decide
theorem ge_52 : 1 ≤ 52 := by decide
theorem fo_Co_40 : jm_fo "LyingBeacons$Council" 40 0 9 RX0 TX0 10 := ⟨inY0, rfl, by decide, jm_in (List.mem_of_getElem? (i := 232) (by decide +kernel)) rfl⟩
theorem fp_Co_40 : jm_fp "LyingBeacons$Council" 40 0 9 RX0 TX0 10 false .int := ⟨fo_Co_40, ⟨tyX0, tyX0_ok⟩, nmX0, rfl, by decide +kernel, fun h => by first | rfl | cases h⟩
theorem sh_52 : jm_sh 52 = .inl (.int, 100) := rfl
theorem sh_51 : jm_sh 51 = .inl (.int, 10) := rfl
theorem sh_50 : jm_sh 50 = .inl (.int, 10) := rfl
theorem sh_49 : jm_sh 49 = .inl (.int, 10) := rfl
theorem le_48_48 : 48 ≤ 48 := by decide
theorem lk_X_init__Co_init : jm_lk mY_X_init mY_Co_init := ⟨Nat.le_of_ble_eq_true rfl, Nat.le_of_ble_eq_true rfl⟩
theorem fo_X_57 : jm_fo "LyingBeacons" 57 7 10 RX8 TX8 14 := ⟨inY8, rfl, by decide, jm_in (List.mem_of_getElem? (i := 295) (by decide +kernel)) rfl⟩
theorem fp_X_57 : jm_fp "LyingBeacons" 57 7 10 RX8 TX8 14 true (.object "LyingBeacons$Council") := ⟨fo_X_57, ⟨tyX8, tyX8_ok⟩, nmX8, rfl, by decide +kernel, fun h => by first | rfl | cases h⟩
theorem le_1_52 : 1 ≤ 52 := by decide
def mY_Si_init : jm_Y := (⟨"LyingBeacons$Signs", "<init>", "()V"⟩, prog_8_method_1_code, 1, none, { frames := 1, cells := 1, slots := 72, locals := 20 }, none)
theorem cw_Si_init : Cond.code (jm_nm mY_Si_init) (jm_cd mY_Si_init) (jm_ml mY_Si_init) (jm_rt mY_Si_init) ∈ jm_tbl := jm_in (List.mem_of_getElem? (i := 258) (by decide +kernel)) rfl
theorem ini_Si : Cond.initialized "LyingBeacons$Signs" ∈ jm_tbl := jm_in (List.mem_of_getElem? (i := 68) (by decide +kernel)) rfl
theorem ok_Si_init : jm_ok mY_Si_init 0 := ⟨by decide, rfl, cw_Si_init, ini_Si, by decide +kernel⟩
theorem mlo_Si_3 : Cond.methodLink "LyingBeacons$Signs" 3 Lib.objectInit ∈ jm_tbl := jm_in (List.mem_of_getElem? (i := 259) (by decide +kernel)) rfl
theorem cb_72 : (Int8.ofInt 72).toInt32 = (72 : Int32) := by decide
theorem fo_Si_9 : jm_fo "LyingBeacons$Signs" 9 5 0 RX6 TX6 1 := ⟨inY6, rfl, by decide, jm_in (List.mem_of_getElem? (i := 260) (by decide +kernel)) rfl⟩
theorem fp_Si_9 : jm_fp "LyingBeacons$Signs" 9 5 0 RX6 TX6 1 true (.array .int) := ⟨fo_Si_9, ⟨tyX6, tyX6_ok⟩, nmX6, rfl, by decide +kernel, fun h => by first | rfl | cases h⟩
theorem sh_53 : jm_sh 53 = .inr 5 := rfl
theorem ge_53 : 1 ≤ 53 := by decide
theorem le_53_54 : 53 ≤ 54 := by decide
theorem ge_54 : 1 ≤ 54 := by decide
theorem sh_54 : jm_sh 54 = .inl (.int, 72) := rfl
theorem lk_X_init__Si_init : jm_lk mY_X_init mY_Si_init := ⟨Nat.le_of_ble_eq_true rfl, Nat.le_of_ble_eq_true rfl⟩
theorem fo_X_64 : jm_fo "LyingBeacons" 64 7 11 RX8 TX8 14 := ⟨inY8, rfl, by decide, jm_in (List.mem_of_getElem? (i := 296) (by decide +kernel)) rfl⟩
theorem fp_X_64 : jm_fp "LyingBeacons" 64 7 11 RX8 TX8 14 true (.object "LyingBeacons$Signs") := ⟨fo_X_64, ⟨tyX8, tyX8_ok⟩, nmX8, rfl, by decide +kernel, fun h => by first | rfl | cases h⟩
theorem le_1_54 : 1 ≤ 54 := by decide
def mY_Wa_init : jm_Y := (⟨"LyingBeacons$Watchmen", "<init>", "()V"⟩, prog_9_method_1_code, 1, none, { frames := 1, cells := 1, slots := 4, locals := 20 }, none)
theorem cw_Wa_init : Cond.code (jm_nm mY_Wa_init) (jm_cd mY_Wa_init) (jm_ml mY_Wa_init) (jm_rt mY_Wa_init) ∈ jm_tbl := jm_in (List.mem_of_getElem? (i := 268) (by decide +kernel)) rfl
theorem ini_Wa : Cond.initialized "LyingBeacons$Watchmen" ∈ jm_tbl := jm_in (List.mem_of_getElem? (i := 69) (by decide +kernel)) rfl
theorem ok_Wa_init : jm_ok mY_Wa_init 0 := ⟨by decide, rfl, cw_Wa_init, ini_Wa, by decide +kernel⟩
theorem mlo_Wa_3 : Cond.methodLink "LyingBeacons$Watchmen" 3 Lib.objectInit ∈ jm_tbl := jm_in (List.mem_of_getElem? (i := 269) (by decide +kernel)) rfl
theorem fo_Wa_9 : jm_fo "LyingBeacons$Watchmen" 9 6 0 RX7 TX7 1 := ⟨inY7, rfl, by decide, jm_in (List.mem_of_getElem? (i := 270) (by decide +kernel)) rfl⟩
theorem fp_Wa_9 : jm_fp "LyingBeacons$Watchmen" 9 6 0 RX7 TX7 1 true (.array .int) := ⟨fo_Wa_9, ⟨tyX7, tyX7_ok⟩, nmX7, rfl, by decide +kernel, fun h => by first | rfl | cases h⟩
theorem sh_55 : jm_sh 55 = .inr 6 := rfl
theorem ge_55 : 1 ≤ 55 := by decide
theorem le_55_56 : 55 ≤ 56 := by decide
theorem ge_56 : 1 ≤ 56 := by decide
theorem sh_56 : jm_sh 56 = .inl (.int, 4) := rfl
theorem lk_X_init__Wa_init : jm_lk mY_X_init mY_Wa_init := ⟨Nat.le_of_ble_eq_true rfl, Nat.le_of_ble_eq_true rfl⟩
theorem fo_X_71 : jm_fo "LyingBeacons" 71 7 12 RX8 TX8 14 := ⟨inY8, rfl, by decide, jm_in (List.mem_of_getElem? (i := 297) (by decide +kernel)) rfl⟩
theorem fp_X_71 : jm_fp "LyingBeacons" 71 7 12 RX8 TX8 14 true (.object "LyingBeacons$Watchmen") := ⟨fo_X_71, ⟨tyX8, tyX8_ok⟩, nmX8, rfl, by decide +kernel, fun h => by first | rfl | cases h⟩
theorem le_1_56 : 1 ≤ 56 := by decide
def mY_Ki_init : jm_Y := (⟨"LyingBeacons$King", "<init>", "()V"⟩, prog_3_method_1_code, 1, none, { frames := 1, cells := 1, slots := 3, locals := 20 }, none)
theorem cw_Ki_init : Cond.code (jm_nm mY_Ki_init) (jm_cd mY_Ki_init) (jm_ml mY_Ki_init) (jm_rt mY_Ki_init) ∈ jm_tbl := jm_in (List.mem_of_getElem? (i := 278) (by decide +kernel)) rfl
theorem ini_Ki : Cond.initialized "LyingBeacons$King" ∈ jm_tbl := jm_in (List.mem_of_getElem? (i := 70) (by decide +kernel)) rfl
theorem ok_Ki_init : jm_ok mY_Ki_init 0 := ⟨by decide, rfl, cw_Ki_init, ini_Ki, by decide +kernel⟩
theorem mlo_Ki_3 : Cond.methodLink "LyingBeacons$King" 3 Lib.objectInit ∈ jm_tbl := jm_in (List.mem_of_getElem? (i := 279) (by decide +kernel)) rfl
theorem ci_3 : Int32.ofInt 3 = (3 : Int32) := by decide
theorem cs_1000 : (Int16.ofInt 1000).toInt32 = (1000 : Int32) := by decide
theorem ci_2 : Int32.ofInt 2 = (2 : Int32) := by decide
theorem fo_Ki_9 : jm_fo "LyingBeacons$King" 9 1 0 RX1 TX1 1 := ⟨inY1, rfl, by decide, jm_in (List.mem_of_getElem? (i := 280) (by decide +kernel)) rfl⟩
theorem fp_Ki_9 : jm_fp "LyingBeacons$King" 9 1 0 RX1 TX1 1 true (.array .int) := ⟨fo_Ki_9, ⟨tyX1, tyX1_ok⟩, nmX1, rfl, by decide +kernel, fun h => by first | rfl | cases h⟩
theorem sh_57 : jm_sh 57 = .inr 1 := rfl
theorem ge_57 : 1 ≤ 57 := by decide
theorem le_57_58 : 57 ≤ 58 := by decide
theorem ge_58 : 1 ≤ 58 := by decide
theorem sh_58 : jm_sh 58 = .inl (.int, 3) := rfl
theorem le_58_58 : 58 ≤ 58 := by decide
theorem lk_X_init__Ki_init : jm_lk mY_X_init mY_Ki_init := ⟨Nat.le_of_ble_eq_true rfl, Nat.le_of_ble_eq_true rfl⟩
theorem fo_X_78 : jm_fo "LyingBeacons" 78 7 13 RX8 TX8 14 := ⟨inY8, rfl, by decide, jm_in (List.mem_of_getElem? (i := 298) (by decide +kernel)) rfl⟩
theorem fp_X_78 : jm_fp "LyingBeacons" 78 7 13 RX8 TX8 14 true (.object "LyingBeacons$King") := ⟨fo_X_78, ⟨tyX8, tyX8_ok⟩, nmX8, rfl, by decide +kernel, fun h => by first | rfl | cases h⟩
theorem le_1_58 : 1 ≤ 58 := by decide
theorem ml_X_77 : Cond.methodLink "LyingBeacons" 77 ⟨"LyingBeacons$King", "<init>", "()V"⟩ ∈ jm_tbl := jm_in (List.mem_of_getElem? (i := 276) (by decide +kernel)) rfl
theorem im_Ki_init : Cond.instanceMethod ⟨"LyingBeacons$King", "<init>", "()V"⟩ ∈ jm_tbl := jm_in (List.mem_of_getElem? (i := 277) (by decide +kernel)) rfl
theorem cl_X_75 : Cond.classLink "LyingBeacons" 75 "LyingBeacons$King" ∈ jm_tbl := jm_in (List.mem_of_getElem? (i := 274) (by decide +kernel)) rfl
theorem it_Ki : Cond.instantiable "LyingBeacons$King" 1 ∈ jm_tbl := jm_in (List.mem_of_getElem? (i := 275) (by decide +kernel)) rfl
theorem ft_Ki : ∀ k, k < 1 → (jm_fts 1)[k]? = some (tyX1 k) := by decide +kernel
theorem okt_Ki : ∀ k, k < 1 → jm_okT (tyX1 k) = true := by decide +kernel
theorem ml_X_70 : Cond.methodLink "LyingBeacons" 70 ⟨"LyingBeacons$Watchmen", "<init>", "()V"⟩ ∈ jm_tbl := jm_in (List.mem_of_getElem? (i := 266) (by decide +kernel)) rfl
theorem im_Wa_init : Cond.instanceMethod ⟨"LyingBeacons$Watchmen", "<init>", "()V"⟩ ∈ jm_tbl := jm_in (List.mem_of_getElem? (i := 267) (by decide +kernel)) rfl
theorem cl_X_68 : Cond.classLink "LyingBeacons" 68 "LyingBeacons$Watchmen" ∈ jm_tbl := jm_in (List.mem_of_getElem? (i := 264) (by decide +kernel)) rfl
theorem it_Wa : Cond.instantiable "LyingBeacons$Watchmen" 1 ∈ jm_tbl := jm_in (List.mem_of_getElem? (i := 265) (by decide +kernel)) rfl
theorem ft_Wa : ∀ k, k < 1 → (jm_fts 6)[k]? = some (tyX7 k) := by decide +kernel
theorem okt_Wa : ∀ k, k < 1 → jm_okT (tyX7 k) = true := by decide +kernel
theorem ml_X_63 : Cond.methodLink "LyingBeacons" 63 ⟨"LyingBeacons$Signs", "<init>", "()V"⟩ ∈ jm_tbl := jm_in (List.mem_of_getElem? (i := 256) (by decide +kernel)) rfl
theorem im_Si_init : Cond.instanceMethod ⟨"LyingBeacons$Signs", "<init>", "()V"⟩ ∈ jm_tbl := jm_in (List.mem_of_getElem? (i := 257) (by decide +kernel)) rfl
theorem cl_X_61 : Cond.classLink "LyingBeacons" 61 "LyingBeacons$Signs" ∈ jm_tbl := jm_in (List.mem_of_getElem? (i := 254) (by decide +kernel)) rfl
theorem it_Si : Cond.instantiable "LyingBeacons$Signs" 1 ∈ jm_tbl := jm_in (List.mem_of_getElem? (i := 255) (by decide +kernel)) rfl
theorem ft_Si : ∀ k, k < 1 → (jm_fts 5)[k]? = some (tyX6 k) := by decide +kernel
theorem okt_Si : ∀ k, k < 1 → jm_okT (tyX6 k) = true := by decide +kernel
theorem ml_X_56 : Cond.methodLink "LyingBeacons" 56 ⟨"LyingBeacons$Council", "<init>", "()V"⟩ ∈ jm_tbl := jm_in (List.mem_of_getElem? (i := 217) (by decide +kernel)) rfl
theorem im_Co_init : Cond.instanceMethod ⟨"LyingBeacons$Council", "<init>", "()V"⟩ ∈ jm_tbl := jm_in (List.mem_of_getElem? (i := 218) (by decide +kernel)) rfl
theorem cl_X_54 : Cond.classLink "LyingBeacons" 54 "LyingBeacons$Council" ∈ jm_tbl := jm_in (List.mem_of_getElem? (i := 215) (by decide +kernel)) rfl
theorem it_Co : Cond.instantiable "LyingBeacons$Council" 10 ∈ jm_tbl := jm_in (List.mem_of_getElem? (i := 216) (by decide +kernel)) rfl
theorem ft_Co : ∀ k, k < 10 → (jm_fts 0)[k]? = some (tyX0 k) := by decide +kernel
theorem okt_Co : ∀ k, k < 10 → jm_okT (tyX0 k) = true := by decide +kernel
theorem ml_X_45 : Cond.methodLink "LyingBeacons" 45 ⟨"LyingBeacons$Night", "<init>", "()V"⟩ ∈ jm_tbl := jm_in (List.mem_of_getElem? (i := 199) (by decide +kernel)) rfl
theorem im_Ni_init : Cond.instanceMethod ⟨"LyingBeacons$Night", "<init>", "()V"⟩ ∈ jm_tbl := jm_in (List.mem_of_getElem? (i := 200) (by decide +kernel)) rfl
theorem cl_X_43 : Cond.classLink "LyingBeacons" 43 "LyingBeacons$Night" ∈ jm_tbl := jm_in (List.mem_of_getElem? (i := 197) (by decide +kernel)) rfl
theorem it_Ni : Cond.instantiable "LyingBeacons$Night" 3 ∈ jm_tbl := jm_in (List.mem_of_getElem? (i := 198) (by decide +kernel)) rfl
theorem ft_Ni : ∀ k, k < 3 → (jm_fts 3)[k]? = some (tyX4 k) := by decide +kernel
theorem okt_Ni : ∀ k, k < 3 → jm_okT (tyX4 k) = true := by decide +kernel
theorem ml_X_26 : Cond.methodLink "LyingBeacons" 26 ⟨"LyingBeacons$Net", "<init>", "()V"⟩ ∈ jm_tbl := jm_in (List.mem_of_getElem? (i := 115) (by decide +kernel)) rfl
theorem im_Ne_init : Cond.instanceMethod ⟨"LyingBeacons$Net", "<init>", "()V"⟩ ∈ jm_tbl := jm_in (List.mem_of_getElem? (i := 116) (by decide +kernel)) rfl
theorem cl_X_24 : Cond.classLink "LyingBeacons" 24 "LyingBeacons$Net" ∈ jm_tbl := jm_in (List.mem_of_getElem? (i := 113) (by decide +kernel)) rfl
theorem it_Ne : Cond.instantiable "LyingBeacons$Net" 12 ∈ jm_tbl := jm_in (List.mem_of_getElem? (i := 114) (by decide +kernel)) rfl
theorem ft_Ne : ∀ k, k < 12 → (jm_fts 2)[k]? = some (tyX3 k) := by decide +kernel
theorem okt_Ne : ∀ k, k < 12 → jm_okT (tyX3 k) = true := by decide +kernel
theorem ml_X_19 : Cond.methodLink "LyingBeacons" 19 ⟨"LyingBeacons$Reader", "<init>", "()V"⟩ ∈ jm_tbl := jm_in (List.mem_of_getElem? (i := 85) (by decide +kernel)) rfl
theorem im_Re_init : Cond.instanceMethod ⟨"LyingBeacons$Reader", "<init>", "()V"⟩ ∈ jm_tbl := jm_in (List.mem_of_getElem? (i := 86) (by decide +kernel)) rfl
theorem cl_X_17 : Cond.classLink "LyingBeacons" 17 "LyingBeacons$Reader" ∈ jm_tbl := jm_in (List.mem_of_getElem? (i := 83) (by decide +kernel)) rfl
theorem it_Re : Cond.instantiable "LyingBeacons$Reader" 7 ∈ jm_tbl := jm_in (List.mem_of_getElem? (i := 84) (by decide +kernel)) rfl
theorem ft_Re : ∀ k, k < 7 → (jm_fts 4)[k]? = some (tyX5 k) := by decide +kernel
theorem okt_Re : ∀ k, k < 7 → jm_okT (tyX5 k) = true := by decide +kernel
theorem ac_byte : Cond.arrayClass .byte ∈ jm_tbl := jm_in (List.mem_of_getElem? (i := 111) (by decide +kernel)) rfl
theorem sh_2 : jm_sh 2 = .inl (.byte, 300) := rfl
theorem lk_Law_law__X_init (L : Nat) (xs : Nat → Int32) : jm_lk (mY_Law L xs) mY_X_init := ⟨Nat.le_of_ble_eq_true rfl, Nat.le_of_ble_eq_true rfl⟩
def mY_Z_init : jm_Y := (⟨"LyingBeaconsModel", "<init>", "()V"⟩, prog_11_method_1_code, 2, none, { frames := 1, cells := 19, slots := 1580, locals := 20 }, none)
theorem cw_Z_init : Cond.code (jm_nm mY_Z_init) (jm_cd mY_Z_init) (jm_ml mY_Z_init) (jm_rt mY_Z_init) ∈ jm_tbl := jm_in (List.mem_of_getElem? (i := 758) (by decide +kernel)) rfl
theorem ini_Z : Cond.initialized "LyingBeaconsModel" ∈ jm_tbl := jm_in (List.mem_of_getElem? (i := 71) (by decide +kernel)) rfl
theorem ok_Z_init : jm_ok mY_Z_init 0 := ⟨by decide, rfl, cw_Z_init, ini_Z, by decide +kernel⟩
theorem mlo_Z_1 : Cond.methodLink "LyingBeaconsModel" 1 Lib.objectInit ∈ jm_tbl := jm_in (List.mem_of_getElem? (i := 759) (by decide +kernel)) rfl
theorem fo_Z_7 : jm_fo "LyingBeaconsModel" 7 8 1 RX9 TX9 30 := ⟨inY9, rfl, by decide, jm_in (List.mem_of_getElem? (i := 761) (by decide +kernel)) rfl⟩
theorem fp_Z_7 : jm_fp "LyingBeaconsModel" 7 8 1 RX9 TX9 30 true (.array .int) := ⟨fo_Z_7, ⟨tyX9, tyX9_ok⟩, nmX9, rfl, by decide +kernel, fun h => by first | rfl | cases h⟩
theorem sh_59 : jm_sh 59 = .inr 8 := rfl
theorem ge_59 : 1 ≤ 59 := by decide
theorem le_59_60 : 59 ≤ 60 := by decide
theorem ge_60 : 1 ≤ 60 := by decide
theorem fo_Z_13 : jm_fo "LyingBeaconsModel" 13 8 2 RX9 TX9 30 := ⟨inY9, rfl, by decide, jm_in (List.mem_of_getElem? (i := 762) (by decide +kernel)) rfl⟩
theorem fp_Z_13 : jm_fp "LyingBeaconsModel" 13 8 2 RX9 TX9 30 true (.array .int) := ⟨fo_Z_13, ⟨tyX9, tyX9_ok⟩, nmX9, rfl, by decide +kernel, fun h => by first | rfl | cases h⟩
theorem le_59_61 : 59 ≤ 61 := by decide
theorem ge_61 : 1 ≤ 61 := by decide
theorem cb_40 : (Int8.ofInt 40).toInt32 = (40 : Int32) := by decide
theorem fo_Z_16 : jm_fo "LyingBeaconsModel" 16 8 3 RX9 TX9 30 := ⟨inY9, rfl, by decide, jm_in (List.mem_of_getElem? (i := 763) (by decide +kernel)) rfl⟩
theorem fp_Z_16 : jm_fp "LyingBeaconsModel" 16 8 3 RX9 TX9 30 true (.array .int) := ⟨fo_Z_16, ⟨tyX9, tyX9_ok⟩, nmX9, rfl, by decide +kernel, fun h => by first | rfl | cases h⟩
theorem le_59_62 : 59 ≤ 62 := by decide
theorem ge_62 : 1 ≤ 62 := by decide
theorem fo_Z_19 : jm_fo "LyingBeaconsModel" 19 8 4 RX9 TX9 30 := ⟨inY9, rfl, by decide, jm_in (List.mem_of_getElem? (i := 764) (by decide +kernel)) rfl⟩
theorem fp_Z_19 : jm_fp "LyingBeaconsModel" 19 8 4 RX9 TX9 30 true (.array .int) := ⟨fo_Z_19, ⟨tyX9, tyX9_ok⟩, nmX9, rfl, by decide +kernel, fun h => by first | rfl | cases h⟩
theorem le_59_63 : 59 ≤ 63 := by decide
theorem ge_63 : 1 ≤ 63 := by decide
theorem fo_Z_22 : jm_fo "LyingBeaconsModel" 22 8 5 RX9 TX9 30 := ⟨inY9, rfl, by decide, jm_in (List.mem_of_getElem? (i := 765) (by decide +kernel)) rfl⟩
theorem fp_Z_22 : jm_fp "LyingBeaconsModel" 22 8 5 RX9 TX9 30 true (.array .int) := ⟨fo_Z_22, ⟨tyX9, tyX9_ok⟩, nmX9, rfl, by decide +kernel, fun h => by first | rfl | cases h⟩
theorem le_59_64 : 59 ≤ 64 := by decide
theorem ge_64 : 1 ≤ 64 := by decide
theorem fo_Z_25 : jm_fo "LyingBeaconsModel" 25 8 6 RX9 TX9 30 := ⟨inY9, rfl, by decide, jm_in (List.mem_of_getElem? (i := 766) (by decide +kernel)) rfl⟩
theorem fp_Z_25 : jm_fp "LyingBeaconsModel" 25 8 6 RX9 TX9 30 true (.array .int) := ⟨fo_Z_25, ⟨tyX9, tyX9_ok⟩, nmX9, rfl, by decide +kernel, fun h => by first | rfl | cases h⟩
theorem le_59_65 : 59 ≤ 65 := by decide
theorem ge_65 : 1 ≤ 65 := by decide
theorem fo_Z_28 : jm_fo "LyingBeaconsModel" 28 8 7 RX9 TX9 30 := ⟨inY9, rfl, by decide, jm_in (List.mem_of_getElem? (i := 767) (by decide +kernel)) rfl⟩
theorem fp_Z_28 : jm_fp "LyingBeaconsModel" 28 8 7 RX9 TX9 30 true (.array .int) := ⟨fo_Z_28, ⟨tyX9, tyX9_ok⟩, nmX9, rfl, by decide +kernel, fun h => by first | rfl | cases h⟩
theorem le_59_66 : 59 ≤ 66 := by decide
theorem ge_66 : 1 ≤ 66 := by decide
theorem fo_Z_31 : jm_fo "LyingBeaconsModel" 31 8 8 RX9 TX9 30 := ⟨inY9, rfl, by decide, jm_in (List.mem_of_getElem? (i := 768) (by decide +kernel)) rfl⟩
theorem fp_Z_31 : jm_fp "LyingBeaconsModel" 31 8 8 RX9 TX9 30 true (.array .int) := ⟨fo_Z_31, ⟨tyX9, tyX9_ok⟩, nmX9, rfl, by decide +kernel, fun h => by first | rfl | cases h⟩
theorem le_59_67 : 59 ≤ 67 := by decide
theorem ge_67 : 1 ≤ 67 := by decide
theorem cs_860 : (Int16.ofInt 860).toInt32 = (860 : Int32) := by decide
theorem fo_Z_34 : jm_fo "LyingBeaconsModel" 34 8 9 RX9 TX9 30 := ⟨inY9, rfl, by decide, jm_in (List.mem_of_getElem? (i := 769) (by decide +kernel)) rfl⟩
theorem fp_Z_34 : jm_fp "LyingBeaconsModel" 34 8 9 RX9 TX9 30 true (.array .int) := ⟨fo_Z_34, ⟨tyX9, tyX9_ok⟩, nmX9, rfl, by decide +kernel, fun h => by first | rfl | cases h⟩
theorem le_59_68 : 59 ≤ 68 := by decide
theorem ge_68 : 1 ≤ 68 := by decide
theorem cb_9 : (Int8.ofInt 9).toInt32 = (9 : Int32) := by decide
theorem fo_Z_37 : jm_fo "LyingBeaconsModel" 37 8 10 RX9 TX9 30 := ⟨inY9, rfl, by decide, jm_in (List.mem_of_getElem? (i := 770) (by decide +kernel)) rfl⟩
theorem fp_Z_37 : jm_fp "LyingBeaconsModel" 37 8 10 RX9 TX9 30 true (.array .int) := ⟨fo_Z_37, ⟨tyX9, tyX9_ok⟩, nmX9, rfl, by decide +kernel, fun h => by first | rfl | cases h⟩
theorem le_59_69 : 59 ≤ 69 := by decide
theorem ge_69 : 1 ≤ 69 := by decide
theorem cb_30 : (Int8.ofInt 30).toInt32 = (30 : Int32) := by decide
theorem fo_Z_40 : jm_fo "LyingBeaconsModel" 40 8 11 RX9 TX9 30 := ⟨inY9, rfl, by decide, jm_in (List.mem_of_getElem? (i := 771) (by decide +kernel)) rfl⟩
theorem fp_Z_40 : jm_fp "LyingBeaconsModel" 40 8 11 RX9 TX9 30 true (.array .int) := ⟨fo_Z_40, ⟨tyX9, tyX9_ok⟩, nmX9, rfl, by decide +kernel, fun h => by first | rfl | cases h⟩
theorem le_59_70 : 59 ≤ 70 := by decide
theorem ge_70 : 1 ≤ 70 := by decide
theorem fo_Z_43 : jm_fo "LyingBeaconsModel" 43 8 13 RX9 TX9 30 := ⟨inY9, rfl, by decide, jm_in (List.mem_of_getElem? (i := 773) (by decide +kernel)) rfl⟩
theorem fp_Z_43 : jm_fp "LyingBeaconsModel" 43 8 13 RX9 TX9 30 true (.array .int) := ⟨fo_Z_43, ⟨tyX9, tyX9_ok⟩, nmX9, rfl, by decide +kernel, fun h => by first | rfl | cases h⟩
theorem le_59_71 : 59 ≤ 71 := by decide
theorem ge_71 : 1 ≤ 71 := by decide
theorem fo_Z_46 : jm_fo "LyingBeaconsModel" 46 8 14 RX9 TX9 30 := ⟨inY9, rfl, by decide, jm_in (List.mem_of_getElem? (i := 774) (by decide +kernel)) rfl⟩
theorem fp_Z_46 : jm_fp "LyingBeaconsModel" 46 8 14 RX9 TX9 30 true (.array .int) := ⟨fo_Z_46, ⟨tyX9, tyX9_ok⟩, nmX9, rfl, by decide +kernel, fun h => by first | rfl | cases h⟩
theorem le_59_72 : 59 ≤ 72 := by decide
theorem ge_72 : 1 ≤ 72 := by decide
theorem fo_Z_49 : jm_fo "LyingBeaconsModel" 49 8 16 RX9 TX9 30 := ⟨inY9, rfl, by decide, jm_in (List.mem_of_getElem? (i := 776) (by decide +kernel)) rfl⟩
theorem fp_Z_49 : jm_fp "LyingBeaconsModel" 49 8 16 RX9 TX9 30 true (.array .int) := ⟨fo_Z_49, ⟨tyX9, tyX9_ok⟩, nmX9, rfl, by decide +kernel, fun h => by first | rfl | cases h⟩
theorem le_59_73 : 59 ≤ 73 := by decide
theorem ge_73 : 1 ≤ 73 := by decide
theorem cb_60 : (Int8.ofInt 60).toInt32 = (60 : Int32) := by decide
theorem fo_Z_52 : jm_fo "LyingBeaconsModel" 52 8 20 RX9 TX9 30 := ⟨inY9, rfl, by decide, jm_in (List.mem_of_getElem? (i := 780) (by decide +kernel)) rfl⟩
theorem fp_Z_52 : jm_fp "LyingBeaconsModel" 52 8 20 RX9 TX9 30 true (.array .int) := ⟨fo_Z_52, ⟨tyX9, tyX9_ok⟩, nmX9, rfl, by decide +kernel, fun h => by first | rfl | cases h⟩
theorem le_59_74 : 59 ≤ 74 := by decide
theorem ge_74 : 1 ≤ 74 := by decide
theorem fo_Z_55 : jm_fo "LyingBeaconsModel" 55 8 21 RX9 TX9 30 := ⟨inY9, rfl, by decide, jm_in (List.mem_of_getElem? (i := 781) (by decide +kernel)) rfl⟩
theorem fp_Z_55 : jm_fp "LyingBeaconsModel" 55 8 21 RX9 TX9 30 true (.array .int) := ⟨fo_Z_55, ⟨tyX9, tyX9_ok⟩, nmX9, rfl, by decide +kernel, fun h => by first | rfl | cases h⟩
theorem le_59_75 : 59 ≤ 75 := by decide
theorem ge_75 : 1 ≤ 75 := by decide
theorem fo_Z_58 : jm_fo "LyingBeaconsModel" 58 8 27 RX9 TX9 30 := ⟨inY9, rfl, by decide, jm_in (List.mem_of_getElem? (i := 787) (by decide +kernel)) rfl⟩
theorem fp_Z_58 : jm_fp "LyingBeaconsModel" 58 8 27 RX9 TX9 30 true (.array .int) := ⟨fo_Z_58, ⟨tyX9, tyX9_ok⟩, nmX9, rfl, by decide +kernel, fun h => by first | rfl | cases h⟩
theorem le_59_76 : 59 ≤ 76 := by decide
theorem ge_76 : 1 ≤ 76 := by decide
theorem fo_Z_61 : jm_fo "LyingBeaconsModel" 61 8 28 RX9 TX9 30 := ⟨inY9, rfl, by decide, jm_in (List.mem_of_getElem? (i := 788) (by decide +kernel)) rfl⟩
theorem fp_Z_61 : jm_fp "LyingBeaconsModel" 61 8 28 RX9 TX9 30 true (.array .int) := ⟨fo_Z_61, ⟨tyX9, tyX9_ok⟩, nmX9, rfl, by decide +kernel, fun h => by first | rfl | cases h⟩
theorem le_59_77 : 59 ≤ 77 := by decide
theorem ge_77 : 1 ≤ 77 := by decide
theorem fo_Z_64 : jm_fo "LyingBeaconsModel" 64 8 29 RX9 TX9 30 := ⟨inY9, rfl, by decide, jm_in (List.mem_of_getElem? (i := 789) (by decide +kernel)) rfl⟩
theorem fp_Z_64 : jm_fp "LyingBeaconsModel" 64 8 29 RX9 TX9 30 true (.array .int) := ⟨fo_Z_64, ⟨tyX9, tyX9_ok⟩, nmX9, rfl, by decide +kernel, fun h => by first | rfl | cases h⟩
theorem le_59_78 : 59 ≤ 78 := by decide
theorem ge_78 : 1 ≤ 78 := by decide
theorem mr_154_59_11 : mr_154 59 11 = some 70 := by decide
theorem sh_70 : jm_sh 70 = .inl (.int, 30) := rfl
theorem le_70_78 : 70 ≤ 78 := by decide
theorem sh_78 : jm_sh 78 = .inl (.int, 4) := rfl
theorem sh_77 : jm_sh 77 = .inl (.int, 10) := rfl
theorem sh_76 : jm_sh 76 = .inl (.int, 10) := rfl
theorem sh_75 : jm_sh 75 = .inl (.int, 10) := rfl
theorem sh_74 : jm_sh 74 = .inl (.int, 60) := rfl
theorem sh_73 : jm_sh 73 = .inl (.int, 4) := rfl
theorem sh_72 : jm_sh 72 = .inl (.int, 3) := rfl
theorem le_72_72 : 72 ≤ 72 := by decide
theorem sh_71 : jm_sh 71 = .inl (.int, 72) := rfl
theorem sh_69 : jm_sh 69 = .inl (.int, 9) := rfl
theorem sh_68 : jm_sh 68 = .inl (.int, 860) := rfl
theorem sh_67 : jm_sh 67 = .inl (.int, 4) := rfl
theorem sh_66 : jm_sh 66 = .inl (.int, 40) := rfl
theorem sh_65 : jm_sh 65 = .inl (.int, 40) := rfl
theorem sh_64 : jm_sh 64 = .inl (.int, 40) := rfl
theorem sh_63 : jm_sh 63 = .inl (.int, 40) := rfl
theorem sh_62 : jm_sh 62 = .inl (.int, 40) := rfl
theorem sh_61 : jm_sh 61 = .inl (.int, 4) := rfl
theorem sh_60 : jm_sh 60 = .inl (.int, 300) := rfl
theorem lk_Law_law__Z_init (L : Nat) (xs : Nat → Int32) : jm_lk (mY_Law L xs) mY_Z_init := ⟨Nat.le_of_ble_eq_true rfl, Nat.le_of_ble_eq_true rfl⟩
theorem cb_6 : (Int8.ofInt 6).toInt32 = (6 : Int32) := by decide
theorem cb_31 : (Int8.ofInt 31).toInt32 = (31 : Int32) := by decide
theorem cb_32 : (Int8.ofInt 32).toInt32 = (32 : Int32) := by decide
theorem kl_Law_13 : Cond.constantLong "LyingBeaconsLaw" 13 (4294967295 : Int64) ∈ jm_tbl := jm_in (List.mem_of_getElem? (i := 1144) (by decide +kernel)) rfl
def mY_X_write : jm_Y := (⟨"LyingBeacons", "write", "(IJ)I"⟩, prog_1_method_2_code, 5, some .int, { frames := 0, cells := 0, slots := 0, locals := 0 }, none)
theorem cw_X_write : Cond.code (jm_nm mY_X_write) (jm_cd mY_X_write) (jm_ml mY_X_write) (jm_rt mY_X_write) ∈ jm_tbl := jm_in (List.mem_of_getElem? (i := 331) (by decide +kernel)) rfl
theorem ok_X_write : jm_ok mY_X_write 2 := ⟨by decide, rfl, cw_X_write, ini_X, by decide +kernel⟩
theorem cb_8 : (Int8.ofInt 8).toInt32 = (8 : Int32) := by decide
theorem le_1_78 : 1 ≤ 78 := by decide
theorem mr_154_1_0 : mr_154 1 0 = some 2 := by decide
theorem le_2_78 : 2 ≤ 78 := by decide
theorem cb_m3 : (Int8.ofInt (-3)).toInt32 = (-3 : Int32) := by decide
theorem l0_Law__X_write (L : Nat) (xs : Nat → Int32) : jm_l0 (mY_Law L xs) mY_X_write := ⟨⟨Nat.le_of_ble_eq_true rfl, Nat.le_of_ble_eq_true rfl⟩, rfl, rfl⟩
def mY_Z_write : jm_Y := (⟨"LyingBeaconsModel", "write", "(IJ)I"⟩, prog_11_method_5_code, 5, some .int, { frames := 1, cells := 0, slots := 0, locals := 25 }, none)
theorem cw_Z_write : Cond.code (jm_nm mY_Z_write) (jm_cd mY_Z_write) (jm_ml mY_Z_write) (jm_rt mY_Z_write) ∈ jm_tbl := jm_in (List.mem_of_getElem? (i := 854) (by decide +kernel)) rfl
theorem ok_Z_write : jm_ok mY_Z_write 2 := ⟨by decide, rfl, cw_Z_write, ini_Z, by decide +kernel⟩
theorem cl_1 : Int64.ofNat ((1 : Fin 2) : Nat) = (1 : Int64) := by decide
theorem kl_Z_67 : Cond.constantLong "LyingBeaconsModel" 67 (8 : Int64) ∈ jm_tbl := jm_in (List.mem_of_getElem? (i := 855) (by decide +kernel)) rfl
def mY_Z_in : jm_Y := (⟨"LyingBeaconsModel", "in", "(JJJ)Z"⟩, prog_11_method_2_code, 6, some .boolean, { frames := 0, cells := 0, slots := 0, locals := 0 }, none)
theorem cw_Z_in : Cond.code (jm_nm mY_Z_in) (jm_cd mY_Z_in) (jm_ml mY_Z_in) (jm_rt mY_Z_in) ∈ jm_tbl := jm_in (List.mem_of_getElem? (i := 858) (by decide +kernel)) rfl
theorem ok_Z_in : jm_ok mY_Z_in 3 := ⟨by decide, rfl, cw_Z_in, ini_Z, by decide +kernel⟩
theorem l0_Z_write__Z_in : jm_l0 mY_Z_write mY_Z_in := ⟨⟨Nat.le_of_ble_eq_true rfl, Nat.le_of_ble_eq_true rfl⟩, rfl, rfl⟩
theorem fo_Z_73 : jm_fo "LyingBeaconsModel" 73 8 0 RX9 TX9 30 := ⟨inY9, rfl, by decide, jm_in (List.mem_of_getElem? (i := 760) (by decide +kernel)) rfl⟩
theorem mr_154_59_1 : mr_154 59 1 = some 60 := by decide
theorem kl_Z_77 : Cond.constantLong "LyingBeaconsModel" 77 (255 : Int64) ∈ jm_tbl := jm_in (List.mem_of_getElem? (i := 859) (by decide +kernel)) rfl
theorem fp_Z_73 : jm_fp "LyingBeaconsModel" 73 8 0 RX9 TX9 30 false .int := ⟨fo_Z_73, ⟨tyX9, tyX9_ok⟩, nmX9, rfl, by decide +kernel, fun h => by first | rfl | cases h⟩
theorem le_60_78 : 60 ≤ 78 := by decide
theorem ml_Z_69 : Cond.methodLink "LyingBeaconsModel" 69 ⟨"LyingBeaconsModel", "in", "(JJJ)Z"⟩ ∈ jm_tbl := jm_in (List.mem_of_getElem? (i := 856) (by decide +kernel)) rfl
theorem sm_Z_in : Cond.static ⟨"LyingBeaconsModel", "in", "(JJJ)Z"⟩ ∈ jm_tbl := jm_in (List.mem_of_getElem? (i := 857) (by decide +kernel)) rfl
theorem l0_Law__Z_write (L : Nat) (xs : Nat → Int32) : jm_l0 (mY_Law L xs) mY_Z_write := ⟨⟨Nat.le_of_ble_eq_true rfl, Nat.le_of_ble_eq_true rfl⟩, rfl, rfl⟩
theorem ci_6 : Int32.ofInt 6 = (6 : Int32) := by decide
theorem ml_Law_19 : Cond.methodLink "LyingBeaconsLaw" 19 ⟨"LyingBeaconsModel", "write", "(IJ)I"⟩ ∈ jm_tbl := jm_in (List.mem_of_getElem? (i := 851) (by decide +kernel)) rfl
theorem im_Z_write : Cond.instanceMethod ⟨"LyingBeaconsModel", "write", "(IJ)I"⟩ ∈ jm_tbl := jm_in (List.mem_of_getElem? (i := 852) (by decide +kernel)) rfl
theorem se_Z_write : Cond.selects "LyingBeaconsModel" ⟨"LyingBeaconsModel", "write", "(IJ)I"⟩ ⟨"LyingBeaconsModel", "write", "(IJ)I"⟩ ∈ jm_tbl := jm_in (List.mem_of_getElem? (i := 853) (by decide +kernel)) rfl
theorem ml_Law_15 : Cond.methodLink "LyingBeaconsLaw" 15 ⟨"LyingBeacons", "write", "(IJ)I"⟩ ∈ jm_tbl := jm_in (List.mem_of_getElem? (i := 328) (by decide +kernel)) rfl
theorem im_X_write : Cond.instanceMethod ⟨"LyingBeacons", "write", "(IJ)I"⟩ ∈ jm_tbl := jm_in (List.mem_of_getElem? (i := 329) (by decide +kernel)) rfl
theorem se_X_write : Cond.selects "LyingBeacons" ⟨"LyingBeacons", "write", "(IJ)I"⟩ ⟨"LyingBeacons", "write", "(IJ)I"⟩ ∈ jm_tbl := jm_in (List.mem_of_getElem? (i := 330) (by decide +kernel)) rfl
def mY_X_wipe : jm_Y := (⟨"LyingBeacons", "wipe", "()I"⟩, prog_1_method_3_code, 2, some .int, { frames := 0, cells := 0, slots := 0, locals := 0 }, none)
theorem cw_X_wipe : Cond.code (jm_nm mY_X_wipe) (jm_cd mY_X_wipe) (jm_ml mY_X_wipe) (jm_rt mY_X_wipe) ∈ jm_tbl := jm_in (List.mem_of_getElem? (i := 335) (by decide +kernel)) rfl
theorem ok_X_wipe : jm_ok mY_X_wipe 0 := ⟨by decide, rfl, cw_X_wipe, ini_X, by decide +kernel⟩
theorem l0_Law__X_wipe (L : Nat) (xs : Nat → Int32) : jm_l0 (mY_Law L xs) mY_X_wipe := ⟨⟨Nat.le_of_ble_eq_true rfl, Nat.le_of_ble_eq_true rfl⟩, rfl, rfl⟩
def mY_Z_wipe : jm_Y := (⟨"LyingBeaconsModel", "wipe", "()I"⟩, prog_11_method_6_code, 2, some .int, { frames := 0, cells := 0, slots := 0, locals := 0 }, none)
theorem cw_Z_wipe : Cond.code (jm_nm mY_Z_wipe) (jm_cd mY_Z_wipe) (jm_ml mY_Z_wipe) (jm_rt mY_Z_wipe) ∈ jm_tbl := jm_in (List.mem_of_getElem? (i := 863) (by decide +kernel)) rfl
theorem ok_Z_wipe : jm_ok mY_Z_wipe 0 := ⟨by decide, rfl, cw_Z_wipe, ini_Z, by decide +kernel⟩
theorem l0_Law__Z_wipe (L : Nat) (xs : Nat → Int32) : jm_l0 (mY_Law L xs) mY_Z_wipe := ⟨⟨Nat.le_of_ble_eq_true rfl, Nat.le_of_ble_eq_true rfl⟩, rfl, rfl⟩
theorem ml_Law_24 : Cond.methodLink "LyingBeaconsLaw" 24 ⟨"LyingBeaconsModel", "wipe", "()I"⟩ ∈ jm_tbl := jm_in (List.mem_of_getElem? (i := 860) (by decide +kernel)) rfl
theorem im_Z_wipe : Cond.instanceMethod ⟨"LyingBeaconsModel", "wipe", "()I"⟩ ∈ jm_tbl := jm_in (List.mem_of_getElem? (i := 861) (by decide +kernel)) rfl
theorem se_Z_wipe : Cond.selects "LyingBeaconsModel" ⟨"LyingBeaconsModel", "wipe", "()I"⟩ ⟨"LyingBeaconsModel", "wipe", "()I"⟩ ∈ jm_tbl := jm_in (List.mem_of_getElem? (i := 862) (by decide +kernel)) rfl
theorem ml_Law_20 : Cond.methodLink "LyingBeaconsLaw" 20 ⟨"LyingBeacons", "wipe", "()I"⟩ ∈ jm_tbl := jm_in (List.mem_of_getElem? (i := 332) (by decide +kernel)) rfl
theorem im_X_wipe : Cond.instanceMethod ⟨"LyingBeacons", "wipe", "()I"⟩ ∈ jm_tbl := jm_in (List.mem_of_getElem? (i := 333) (by decide +kernel)) rfl
theorem se_X_wipe : Cond.selects "LyingBeacons" ⟨"LyingBeacons", "wipe", "()I"⟩ ⟨"LyingBeacons", "wipe", "()I"⟩ ∈ jm_tbl := jm_in (List.mem_of_getElem? (i := 334) (by decide +kernel)) rfl
def mY_X_fault : jm_Y := (⟨"LyingBeacons", "fault", "()I"⟩, prog_1_method_4_code, 1, some .int, { frames := 5, cells := 0, slots := 0, locals := 114 }, none)
theorem cw_X_fault : Cond.code (jm_nm mY_X_fault) (jm_cd mY_X_fault) (jm_ml mY_X_fault) (jm_rt mY_X_fault) ∈ jm_tbl := jm_in (List.mem_of_getElem? (i := 339) (by decide +kernel)) rfl
theorem ok_X_fault : jm_ok mY_X_fault 0 := ⟨by decide, rfl, cw_X_fault, ini_X, by decide +kernel⟩
theorem mr_154_1_2 : mr_154 1 2 = some 3 := by decide
theorem mr_154_1_3 : mr_154 1 3 = some 5 := by decide
def mY_Re_firstFault : jm_Y := (⟨"LyingBeacons$Reader", "firstFault", "([BILLyingBeacons$Net;)I"⟩, prog_7_method_2_code, 6, some .int, { frames := 4, cells := 0, slots := 0, locals := 89 }, none)
theorem cw_Re_firstFault : Cond.code (jm_nm mY_Re_firstFault) (jm_cd mY_Re_firstFault) (jm_ml mY_Re_firstFault) (jm_rt mY_Re_firstFault) ∈ jm_tbl := jm_in (List.mem_of_getElem? (i := 343) (by decide +kernel)) rfl
theorem ok_Re_firstFault : jm_ok mY_Re_firstFault 3 := ⟨by decide, rfl, cw_Re_firstFault, ini_Re, by decide +kernel⟩
theorem le_5_78 : 5 ≤ 78 := by decide
theorem mr_154_5_9 : mr_154 5 9 = some 14 := by decide
theorem le_14_78 : 14 ≤ 78 := by decide
theorem mr_154_5_1 : mr_154 5 1 = some 6 := by decide
theorem mr_154_5_2 : mr_154 5 2 = some 7 := by decide
theorem mr_154_5_3 : mr_154 5 3 = some 8 := by decide
theorem mr_154_5_4 : mr_154 5 4 = some 9 := by decide
theorem mr_154_5_5 : mr_154 5 5 = some 10 := by decide
theorem mr_154_5_6 : mr_154 5 6 = some 11 := by decide
theorem mr_154_5_7 : mr_154 5 7 = some 12 := by decide
theorem mr_154_5_8 : mr_154 5 8 = some 13 := by decide
theorem le_13_78 : 13 ≤ 78 := by decide
theorem le_12_78 : 12 ≤ 78 := by decide
theorem le_11_78 : 11 ≤ 78 := by decide
theorem le_10_78 : 10 ≤ 78 := by decide
theorem le_9_78 : 9 ≤ 78 := by decide
theorem le_8_78 : 8 ≤ 78 := by decide
theorem le_7_78 : 7 ≤ 78 := by decide
theorem le_6_78 : 6 ≤ 78 := by decide
theorem l0_Re_firstFault__Ne_clear : jm_l0 mY_Re_firstFault mY_Ne_clear := ⟨⟨Nat.le_of_ble_eq_true rfl, Nat.le_of_ble_eq_true rfl⟩, rfl, rfl⟩
theorem le_3_78 : 3 ≤ 78 := by decide
def mY_Re_readItem : jm_Y := (⟨"LyingBeacons$Reader", "readItem", "([BI)Z"⟩, prog_7_method_3_code, 6, some .boolean, { frames := 2, cells := 0, slots := 0, locals := 46 }, none)
theorem cw_Re_readItem : Cond.code (jm_nm mY_Re_readItem) (jm_cd mY_Re_readItem) (jm_ml mY_Re_readItem) (jm_rt mY_Re_readItem) ∈ jm_tbl := jm_in (List.mem_of_getElem? (i := 348) (by decide +kernel)) rfl
theorem ok_Re_readItem : jm_ok mY_Re_readItem 2 := ⟨by decide, rfl, cw_Re_readItem, ini_Re, by decide +kernel⟩
def mY_Re_byteAt : jm_Y := (⟨"LyingBeacons$Reader", "byteAt", "([BI)I"⟩, prog_7_method_5_code, 3, some .int, { frames := 0, cells := 0, slots := 0, locals := 0 }, none)
theorem cw_Re_byteAt : Cond.code (jm_nm mY_Re_byteAt) (jm_cd mY_Re_byteAt) (jm_ml mY_Re_byteAt) (jm_rt mY_Re_byteAt) ∈ jm_tbl := jm_in (List.mem_of_getElem? (i := 352) (by decide +kernel)) rfl
theorem ok_Re_byteAt : jm_ok mY_Re_byteAt 2 := ⟨by decide, rfl, cw_Re_byteAt, ini_Re, by decide +kernel⟩
theorem l0_Re_readItem__Re_byteAt : jm_l0 mY_Re_readItem mY_Re_byteAt := ⟨⟨Nat.le_of_ble_eq_true rfl, Nat.le_of_ble_eq_true rfl⟩, rfl, rfl⟩
def mY_Re_readNumber : jm_Y := (⟨"LyingBeacons$Reader", "readNumber", "([BI)I"⟩, prog_7_method_4_code, 5, some .int, { frames := 1, cells := 0, slots := 0, locals := 22 }, none)
theorem cw_Re_readNumber : Cond.code (jm_nm mY_Re_readNumber) (jm_cd mY_Re_readNumber) (jm_ml mY_Re_readNumber) (jm_rt mY_Re_readNumber) ∈ jm_tbl := jm_in (List.mem_of_getElem? (i := 356) (by decide +kernel)) rfl
theorem ok_Re_readNumber : jm_ok mY_Re_readNumber 2 := ⟨by decide, rfl, cw_Re_readNumber, ini_Re, by decide +kernel⟩
theorem l0_Re_readNumber__Re_byteAt : jm_l0 mY_Re_readNumber mY_Re_byteAt := ⟨⟨Nat.le_of_ble_eq_true rfl, Nat.le_of_ble_eq_true rfl⟩, rfl, rfl⟩
theorem cb_48 : (Int8.ofInt 48).toInt32 = (48 : Int32) := by decide
theorem ml_Re_48 : Cond.methodLink "LyingBeacons$Reader" 48 ⟨"LyingBeacons$Reader", "byteAt", "([BI)I"⟩ ∈ jm_tbl := jm_in (List.mem_of_getElem? (i := 349) (by decide +kernel)) rfl
theorem im_Re_byteAt : Cond.instanceMethod ⟨"LyingBeacons$Reader", "byteAt", "([BI)I"⟩ ∈ jm_tbl := jm_in (List.mem_of_getElem? (i := 351) (by decide +kernel)) rfl
theorem se_Re_byteAt : Cond.selects "LyingBeacons$Reader" ⟨"LyingBeacons$Reader", "byteAt", "([BI)I"⟩ ⟨"LyingBeacons$Reader", "byteAt", "([BI)I"⟩ ∈ jm_tbl := jm_in (List.mem_of_getElem? (i := 1) (by decide +kernel)) rfl
theorem l0_Re_readItem__Re_readNumber : jm_l0 mY_Re_readItem mY_Re_readNumber := ⟨⟨Nat.le_of_ble_eq_true rfl, Nat.le_of_ble_eq_true rfl⟩, rfl, rfl⟩
theorem mr_154_3_0 : mr_154 3 0 = some 4 := by decide
theorem cb_59 : (Int8.ofInt 59).toInt32 = (59 : Int32) := by decide
theorem cb_44 : (Int8.ofInt 44).toInt32 = (44 : Int32) := by decide
theorem le_4_78 : 4 ≤ 78 := by decide
theorem ml_Re_52 : Cond.methodLink "LyingBeacons$Reader" 52 ⟨"LyingBeacons$Reader", "readNumber", "([BI)I"⟩ ∈ jm_tbl := jm_in (List.mem_of_getElem? (i := 353) (by decide +kernel)) rfl
theorem im_Re_readNumber : Cond.instanceMethod ⟨"LyingBeacons$Reader", "readNumber", "([BI)I"⟩ ∈ jm_tbl := jm_in (List.mem_of_getElem? (i := 355) (by decide +kernel)) rfl
theorem se_Re_readNumber : Cond.selects "LyingBeacons$Reader" ⟨"LyingBeacons$Reader", "readNumber", "([BI)I"⟩ ⟨"LyingBeacons$Reader", "readNumber", "([BI)I"⟩ ∈ jm_tbl := jm_in (List.mem_of_getElem? (i := 2) (by decide +kernel)) rfl
theorem l0_Re_firstFault__Re_readItem : jm_l0 mY_Re_firstFault mY_Re_readItem := ⟨⟨Nat.le_of_ble_eq_true rfl, Nat.le_of_ble_eq_true rfl⟩, rfl, rfl⟩
def mY_Re_takeItem : jm_Y := (⟨"LyingBeacons$Reader", "takeItem", "(LLyingBeacons$Net;)Z"⟩, prog_7_method_6_code, 2, some .boolean, { frames := 3, cells := 0, slots := 0, locals := 68 }, none)
theorem cw_Re_takeItem : Cond.code (jm_nm mY_Re_takeItem) (jm_cd mY_Re_takeItem) (jm_ml mY_Re_takeItem) (jm_rt mY_Re_takeItem) ∈ jm_tbl := jm_in (List.mem_of_getElem? (i := 360) (by decide +kernel)) rfl
theorem ok_Re_takeItem : jm_ok mY_Re_takeItem 1 := ⟨by decide, rfl, cw_Re_takeItem, ini_Re, by decide +kernel⟩
theorem cb_104 : (Int8.ofInt 104).toInt32 = (104 : Int32) := by decide
def mY_Ne_isHill : jm_Y := (⟨"LyingBeacons$Net", "isHill", "(I)Z"⟩, prog_5_method_4_code, 2, some .boolean, { frames := 0, cells := 0, slots := 0, locals := 0 }, none)
theorem cw_Ne_isHill : Cond.code (jm_nm mY_Ne_isHill) (jm_cd mY_Ne_isHill) (jm_ml mY_Ne_isHill) (jm_rt mY_Ne_isHill) ∈ jm_tbl := jm_in (List.mem_of_getElem? (i := 376) (by decide +kernel)) rfl
theorem ok_Ne_isHill : jm_ok mY_Ne_isHill 1 := ⟨by decide, rfl, cw_Ne_isHill, ini_Ne, by decide +kernel⟩
theorem l0_Re_takeItem__Ne_isHill : jm_l0 mY_Re_takeItem mY_Ne_isHill := ⟨⟨Nat.le_of_ble_eq_true rfl, Nat.le_of_ble_eq_true rfl⟩, rfl, rfl⟩
def mY_Re_takeMist : jm_Y := (⟨"LyingBeacons$Reader", "takeMist", "(LLyingBeacons$Net;)Z"⟩, prog_7_method_12_code, 4, some .boolean, { frames := 2, cells := 0, slots := 0, locals := 45 }, none)
theorem cw_Re_takeMist : Cond.code (jm_nm mY_Re_takeMist) (jm_cd mY_Re_takeMist) (jm_ml mY_Re_takeMist) (jm_rt mY_Re_takeMist) ∈ jm_tbl := jm_in (List.mem_of_getElem? (i := 410) (by decide +kernel)) rfl
theorem ok_Re_takeMist : jm_ok mY_Re_takeMist 1 := ⟨by decide, rfl, cw_Re_takeMist, ini_Re, by decide +kernel⟩
def mY_Re_isSight : jm_Y := (⟨"LyingBeacons$Reader", "isSight", "(LLyingBeacons$Net;II)Z"⟩, prog_7_method_14_code, 3, some .boolean, { frames := 1, cells := 0, slots := 0, locals := 21 }, none)
theorem cw_Re_isSight : Cond.code (jm_nm mY_Re_isSight) (jm_cd mY_Re_isSight) (jm_ml mY_Re_isSight) (jm_rt mY_Re_isSight) ∈ jm_tbl := jm_in (List.mem_of_getElem? (i := 383) (by decide +kernel)) rfl
theorem ok_Re_isSight : jm_ok mY_Re_isSight 3 := ⟨by decide, rfl, cw_Re_isSight, ini_Re, by decide +kernel⟩
theorem l0_Re_isSight__Ne_isHill : jm_l0 mY_Re_isSight mY_Ne_isHill := ⟨⟨Nat.le_of_ble_eq_true rfl, Nat.le_of_ble_eq_true rfl⟩, rfl, rfl⟩
theorem fo_Re_94 : jm_fo "LyingBeacons$Reader" 94 2 2 RX3 TX3 12 := ⟨inY3, rfl, by decide, jm_in (List.mem_of_getElem? (i := 137) (by decide +kernel)) rfl⟩
theorem ml_Re_58 : Cond.methodLink "LyingBeacons$Reader" 58 ⟨"LyingBeacons$Net", "isHill", "(I)Z"⟩ ∈ jm_tbl := jm_in (List.mem_of_getElem? (i := 373) (by decide +kernel)) rfl
theorem im_Ne_isHill : Cond.instanceMethod ⟨"LyingBeacons$Net", "isHill", "(I)Z"⟩ ∈ jm_tbl := jm_in (List.mem_of_getElem? (i := 374) (by decide +kernel)) rfl
theorem se_Ne_isHill : Cond.selects "LyingBeacons$Net" ⟨"LyingBeacons$Net", "isHill", "(I)Z"⟩ ⟨"LyingBeacons$Net", "isHill", "(I)Z"⟩ ∈ jm_tbl := jm_in (List.mem_of_getElem? (i := 375) (by decide +kernel)) rfl
theorem l0_Re_takeMist__Re_isSight : jm_l0 mY_Re_takeMist mY_Re_isSight := ⟨⟨Nat.le_of_ble_eq_true rfl, Nat.le_of_ble_eq_true rfl⟩, rfl, rfl⟩
def mY_Re_areMinutes : jm_Y := (⟨"LyingBeacons$Reader", "areMinutes", "(I)Z"⟩, prog_7_method_15_code, 2, some .boolean, { frames := 1, cells := 0, slots := 0, locals := 20 }, none)
theorem cw_Re_areMinutes : Cond.code (jm_nm mY_Re_areMinutes) (jm_cd mY_Re_areMinutes) (jm_ml mY_Re_areMinutes) (jm_rt mY_Re_areMinutes) ∈ jm_tbl := jm_in (List.mem_of_getElem? (i := 399) (by decide +kernel)) rfl
theorem ok_Re_areMinutes : jm_ok mY_Re_areMinutes 1 := ⟨by decide, rfl, cw_Re_areMinutes, ini_Re, by decide +kernel⟩
def mY_X_isMinute : jm_Y := (⟨"LyingBeacons", "isMinute", "(I)Z"⟩, prog_1_method_31_code, 1, some .boolean, { frames := 0, cells := 0, slots := 0, locals := 0 }, none)
theorem cw_X_isMinute : Cond.code (jm_nm mY_X_isMinute) (jm_cd mY_X_isMinute) (jm_ml mY_X_isMinute) (jm_rt mY_X_isMinute) ∈ jm_tbl := jm_in (List.mem_of_getElem? (i := 402) (by decide +kernel)) rfl
theorem ok_X_isMinute : jm_ok mY_X_isMinute 1 := ⟨by decide, rfl, cw_X_isMinute, ini_X, by decide +kernel⟩
theorem l0_Re_areMinutes__X_isMinute : jm_l0 mY_Re_areMinutes mY_X_isMinute := ⟨⟨Nat.le_of_ble_eq_true rfl, Nat.le_of_ble_eq_true rfl⟩, rfl, rfl⟩
theorem nl_Re_124 : (("LyingBeacons$Reader", 124, ⟨"LyingBeacons", "isMinute", "(I)Z"⟩, "LyingBeacons") : String × Nat × MethodName × String) ∈ jm_nest := by decide +kernel
theorem sm_X_isMinute : Cond.static ⟨"LyingBeacons", "isMinute", "(I)Z"⟩ ∈ jm_tbl := jm_in (List.mem_of_getElem? (i := 401) (by decide +kernel)) rfl
theorem l0_Re_takeMist__Re_areMinutes : jm_l0 mY_Re_takeMist mY_Re_areMinutes := ⟨⟨Nat.le_of_ble_eq_true rfl, Nat.le_of_ble_eq_true rfl⟩, rfl, rfl⟩
def mY_X_minutesFrom : jm_Y := (⟨"LyingBeacons", "minutesFrom", "(II)J"⟩, prog_1_method_36_code, 2, some .long, { frames := 0, cells := 0, slots := 0, locals := 0 }, none)
theorem cw_X_minutesFrom : Cond.code (jm_nm mY_X_minutesFrom) (jm_cd mY_X_minutesFrom) (jm_ml mY_X_minutesFrom) (jm_rt mY_X_minutesFrom) ∈ jm_tbl := jm_in (List.mem_of_getElem? (i := 405) (by decide +kernel)) rfl
theorem ok_X_minutesFrom : jm_ok mY_X_minutesFrom 2 := ⟨by decide, rfl, cw_X_minutesFrom, ini_X, by decide +kernel⟩
theorem kl_X_267 : Cond.constantLong "LyingBeacons" 267 (-1 : Int64) ∈ jm_tbl := jm_in (List.mem_of_getElem? (i := 406) (by decide +kernel)) rfl
theorem cb_63 : (Int8.ofInt 63).toInt32 = (63 : Int32) := by decide
theorem l0_Re_takeMist__X_minutesFrom : jm_l0 mY_Re_takeMist mY_X_minutesFrom := ⟨⟨Nat.le_of_ble_eq_true rfl, Nat.le_of_ble_eq_true rfl⟩, rfl, rfl⟩
def mY_Ne_addMist : jm_Y := (⟨"LyingBeacons$Net", "addMist", "(IIJ)V"⟩, prog_5_method_11_code, 5, none, { frames := 1, cells := 0, slots := 0, locals := 21 }, none)
theorem cw_Ne_addMist : Cond.code (jm_nm mY_Ne_addMist) (jm_cd mY_Ne_addMist) (jm_ml mY_Ne_addMist) (jm_rt mY_Ne_addMist) ∈ jm_tbl := jm_in (List.mem_of_getElem? (i := 414) (by decide +kernel)) rfl
theorem ok_Ne_addMist : jm_ok mY_Ne_addMist 3 := ⟨by decide, rfl, cw_Ne_addMist, ini_Ne, by decide +kernel⟩
theorem l0_Ne_addMist__Ne_isHill : jm_l0 mY_Ne_addMist mY_Ne_isHill := ⟨⟨Nat.le_of_ble_eq_true rfl, Nat.le_of_ble_eq_true rfl⟩, rfl, rfl⟩
theorem ml_Ne_63 : Cond.methodLink "LyingBeacons$Net" 63 ⟨"LyingBeacons$Net", "isHill", "(I)Z"⟩ ∈ jm_tbl := jm_in (List.mem_of_getElem? (i := 415) (by decide +kernel)) rfl
theorem l0_Re_takeMist__Ne_addMist : jm_l0 mY_Re_takeMist mY_Ne_addMist := ⟨⟨Nat.le_of_ble_eq_true rfl, Nat.le_of_ble_eq_true rfl⟩, rfl, rfl⟩
theorem ml_Re_117 : Cond.methodLink "LyingBeacons$Reader" 117 ⟨"LyingBeacons$Net", "addMist", "(IIJ)V"⟩ ∈ jm_tbl := jm_in (List.mem_of_getElem? (i := 411) (by decide +kernel)) rfl
theorem im_Ne_addMist : Cond.instanceMethod ⟨"LyingBeacons$Net", "addMist", "(IIJ)V"⟩ ∈ jm_tbl := jm_in (List.mem_of_getElem? (i := 412) (by decide +kernel)) rfl
theorem se_Ne_addMist : Cond.selects "LyingBeacons$Net" ⟨"LyingBeacons$Net", "addMist", "(IIJ)V"⟩ ⟨"LyingBeacons$Net", "addMist", "(IIJ)V"⟩ ∈ jm_tbl := jm_in (List.mem_of_getElem? (i := 413) (by decide +kernel)) rfl
theorem nl_Re_113 : (("LyingBeacons$Reader", 113, ⟨"LyingBeacons", "minutesFrom", "(II)J"⟩, "LyingBeacons") : String × Nat × MethodName × String) ∈ jm_nest := by decide +kernel
theorem sm_X_minutesFrom : Cond.static ⟨"LyingBeacons", "minutesFrom", "(II)J"⟩ ∈ jm_tbl := jm_in (List.mem_of_getElem? (i := 404) (by decide +kernel)) rfl
theorem ml_Re_106 : Cond.methodLink "LyingBeacons$Reader" 106 ⟨"LyingBeacons$Reader", "areMinutes", "(I)Z"⟩ ∈ jm_tbl := jm_in (List.mem_of_getElem? (i := 396) (by decide +kernel)) rfl
theorem im_Re_areMinutes : Cond.instanceMethod ⟨"LyingBeacons$Reader", "areMinutes", "(I)Z"⟩ ∈ jm_tbl := jm_in (List.mem_of_getElem? (i := 398) (by decide +kernel)) rfl
theorem se_Re_areMinutes : Cond.selects "LyingBeacons$Reader" ⟨"LyingBeacons$Reader", "areMinutes", "(I)Z"⟩ ⟨"LyingBeacons$Reader", "areMinutes", "(I)Z"⟩ ∈ jm_tbl := jm_in (List.mem_of_getElem? (i := 9) (by decide +kernel)) rfl
theorem ml_Re_90 : Cond.methodLink "LyingBeacons$Reader" 90 ⟨"LyingBeacons$Reader", "isSight", "(LLyingBeacons$Net;II)Z"⟩ ∈ jm_tbl := jm_in (List.mem_of_getElem? (i := 381) (by decide +kernel)) rfl
theorem sm_Re_isSight : Cond.static ⟨"LyingBeacons$Reader", "isSight", "(LLyingBeacons$Net;II)Z"⟩ ∈ jm_tbl := jm_in (List.mem_of_getElem? (i := 382) (by decide +kernel)) rfl
theorem l0_Re_takeItem__Re_takeMist : jm_l0 mY_Re_takeItem mY_Re_takeMist := ⟨⟨Nat.le_of_ble_eq_true rfl, Nat.le_of_ble_eq_true rfl⟩, rfl, rfl⟩
theorem ml_Re_74 : Cond.methodLink "LyingBeacons$Reader" 74 ⟨"LyingBeacons$Reader", "takeMist", "(LLyingBeacons$Net;)Z"⟩ ∈ jm_tbl := jm_in (List.mem_of_getElem? (i := 407) (by decide +kernel)) rfl
theorem im_Re_takeMist : Cond.instanceMethod ⟨"LyingBeacons$Reader", "takeMist", "(LLyingBeacons$Net;)Z"⟩ ∈ jm_tbl := jm_in (List.mem_of_getElem? (i := 409) (by decide +kernel)) rfl
theorem se_Re_takeMist : Cond.selects "LyingBeacons$Reader" ⟨"LyingBeacons$Reader", "takeMist", "(LLyingBeacons$Net;)Z"⟩ ⟨"LyingBeacons$Reader", "takeMist", "(LLyingBeacons$Net;)Z"⟩ ∈ jm_tbl := jm_in (List.mem_of_getElem? (i := 10) (by decide +kernel)) rfl
def mY_Re_takeLiar : jm_Y := (⟨"LyingBeacons$Reader", "takeLiar", "(LLyingBeacons$Net;)Z"⟩, prog_7_method_13_code, 3, some .boolean, { frames := 2, cells := 0, slots := 0, locals := 41 }, none)
theorem cw_Re_takeLiar : Cond.code (jm_nm mY_Re_takeLiar) (jm_cd mY_Re_takeLiar) (jm_ml mY_Re_takeLiar) (jm_rt mY_Re_takeLiar) ∈ jm_tbl := jm_in (List.mem_of_getElem? (i := 419) (by decide +kernel)) rfl
theorem ok_Re_takeLiar : jm_ok mY_Re_takeLiar 1 := ⟨by decide, rfl, cw_Re_takeLiar, ini_Re, by decide +kernel⟩
theorem l0_Re_takeLiar__Ne_isHill : jm_l0 mY_Re_takeLiar mY_Ne_isHill := ⟨⟨Nat.le_of_ble_eq_true rfl, Nat.le_of_ble_eq_true rfl⟩, rfl, rfl⟩
theorem l0_Re_takeLiar__Re_areMinutes : jm_l0 mY_Re_takeLiar mY_Re_areMinutes := ⟨⟨Nat.le_of_ble_eq_true rfl, Nat.le_of_ble_eq_true rfl⟩, rfl, rfl⟩
theorem fo_Re_87 : jm_fo "LyingBeacons$Reader" 87 2 1 RX3 TX3 12 := ⟨inY3, rfl, by decide, jm_in (List.mem_of_getElem? (i := 131) (by decide +kernel)) rfl⟩
theorem fo_Re_121 : jm_fo "LyingBeacons$Reader" 121 2 8 RX3 TX3 12 := ⟨inY3, rfl, by decide, jm_in (List.mem_of_getElem? (i := 162) (by decide +kernel)) rfl⟩
theorem l0_Re_takeLiar__X_minutesFrom : jm_l0 mY_Re_takeLiar mY_X_minutesFrom := ⟨⟨Nat.le_of_ble_eq_true rfl, Nat.le_of_ble_eq_true rfl⟩, rfl, rfl⟩
theorem l0_Re_takeItem__Re_takeLiar : jm_l0 mY_Re_takeItem mY_Re_takeLiar := ⟨⟨Nat.le_of_ble_eq_true rfl, Nat.le_of_ble_eq_true rfl⟩, rfl, rfl⟩
theorem ml_Re_77 : Cond.methodLink "LyingBeacons$Reader" 77 ⟨"LyingBeacons$Reader", "takeLiar", "(LLyingBeacons$Net;)Z"⟩ ∈ jm_tbl := jm_in (List.mem_of_getElem? (i := 416) (by decide +kernel)) rfl
theorem im_Re_takeLiar : Cond.instanceMethod ⟨"LyingBeacons$Reader", "takeLiar", "(LLyingBeacons$Net;)Z"⟩ ∈ jm_tbl := jm_in (List.mem_of_getElem? (i := 418) (by decide +kernel)) rfl
theorem se_Re_takeLiar : Cond.selects "LyingBeacons$Reader" ⟨"LyingBeacons$Reader", "takeLiar", "(LLyingBeacons$Net;)Z"⟩ ⟨"LyingBeacons$Reader", "takeLiar", "(LLyingBeacons$Net;)Z"⟩ ∈ jm_tbl := jm_in (List.mem_of_getElem? (i := 11) (by decide +kernel)) rfl
def mY_Re_takeRule : jm_Y := (⟨"LyingBeacons$Reader", "takeRule", "(LLyingBeacons$Net;)Z"⟩, prog_7_method_9_code, 5, some .boolean, { frames := 1, cells := 0, slots := 0, locals := 21 }, none)
theorem cw_Re_takeRule : Cond.code (jm_nm mY_Re_takeRule) (jm_cd mY_Re_takeRule) (jm_ml mY_Re_takeRule) (jm_rt mY_Re_takeRule) ∈ jm_tbl := jm_in (List.mem_of_getElem? (i := 387) (by decide +kernel)) rfl
theorem ok_Re_takeRule : jm_ok mY_Re_takeRule 1 := ⟨by decide, rfl, cw_Re_takeRule, ini_Re, by decide +kernel⟩
theorem l0_Re_takeRule__Ne_isHill : jm_l0 mY_Re_takeRule mY_Ne_isHill := ⟨⟨Nat.le_of_ble_eq_true rfl, Nat.le_of_ble_eq_true rfl⟩, rfl, rfl⟩
theorem fo_Re_97 : jm_fo "LyingBeacons$Reader" 97 2 3 RX3 TX3 12 := ⟨inY3, rfl, by decide, jm_in (List.mem_of_getElem? (i := 143) (by decide +kernel)) rfl⟩
theorem fo_Re_100 : jm_fo "LyingBeacons$Reader" 100 2 4 RX3 TX3 12 := ⟨inY3, rfl, by decide, jm_in (List.mem_of_getElem? (i := 149) (by decide +kernel)) rfl⟩
theorem l0_Re_takeItem__Re_takeRule : jm_l0 mY_Re_takeItem mY_Re_takeRule := ⟨⟨Nat.le_of_ble_eq_true rfl, Nat.le_of_ble_eq_true rfl⟩, rfl, rfl⟩
theorem ml_Re_65 : Cond.methodLink "LyingBeacons$Reader" 65 ⟨"LyingBeacons$Reader", "takeRule", "(LLyingBeacons$Net;)Z"⟩ ∈ jm_tbl := jm_in (List.mem_of_getElem? (i := 384) (by decide +kernel)) rfl
theorem im_Re_takeRule : Cond.instanceMethod ⟨"LyingBeacons$Reader", "takeRule", "(LLyingBeacons$Net;)Z"⟩ ∈ jm_tbl := jm_in (List.mem_of_getElem? (i := 386) (by decide +kernel)) rfl
theorem se_Re_takeRule : Cond.selects "LyingBeacons$Reader" ⟨"LyingBeacons$Reader", "takeRule", "(LLyingBeacons$Net;)Z"⟩ ⟨"LyingBeacons$Reader", "takeRule", "(LLyingBeacons$Net;)Z"⟩ ∈ jm_tbl := jm_in (List.mem_of_getElem? (i := 6) (by decide +kernel)) rfl
def mY_Re_takeSleep : jm_Y := (⟨"LyingBeacons$Reader", "takeSleep", "(LLyingBeacons$Net;)Z"⟩, prog_7_method_11_code, 3, some .boolean, { frames := 2, cells := 0, slots := 0, locals := 41 }, none)
theorem cw_Re_takeSleep : Cond.code (jm_nm mY_Re_takeSleep) (jm_cd mY_Re_takeSleep) (jm_ml mY_Re_takeSleep) (jm_rt mY_Re_takeSleep) ∈ jm_tbl := jm_in (List.mem_of_getElem? (i := 395) (by decide +kernel)) rfl
theorem ok_Re_takeSleep : jm_ok mY_Re_takeSleep 1 := ⟨by decide, rfl, cw_Re_takeSleep, ini_Re, by decide +kernel⟩
theorem l0_Re_takeSleep__Ne_isHill : jm_l0 mY_Re_takeSleep mY_Ne_isHill := ⟨⟨Nat.le_of_ble_eq_true rfl, Nat.le_of_ble_eq_true rfl⟩, rfl, rfl⟩
theorem l0_Re_takeSleep__Re_areMinutes : jm_l0 mY_Re_takeSleep mY_Re_areMinutes := ⟨⟨Nat.le_of_ble_eq_true rfl, Nat.le_of_ble_eq_true rfl⟩, rfl, rfl⟩
theorem fo_Re_109 : jm_fo "LyingBeacons$Reader" 109 2 7 RX3 TX3 12 := ⟨inY3, rfl, by decide, jm_in (List.mem_of_getElem? (i := 159) (by decide +kernel)) rfl⟩
theorem l0_Re_takeSleep__X_minutesFrom : jm_l0 mY_Re_takeSleep mY_X_minutesFrom := ⟨⟨Nat.le_of_ble_eq_true rfl, Nat.le_of_ble_eq_true rfl⟩, rfl, rfl⟩
theorem l0_Re_takeItem__Re_takeSleep : jm_l0 mY_Re_takeItem mY_Re_takeSleep := ⟨⟨Nat.le_of_ble_eq_true rfl, Nat.le_of_ble_eq_true rfl⟩, rfl, rfl⟩
theorem ml_Re_71 : Cond.methodLink "LyingBeacons$Reader" 71 ⟨"LyingBeacons$Reader", "takeSleep", "(LLyingBeacons$Net;)Z"⟩ ∈ jm_tbl := jm_in (List.mem_of_getElem? (i := 392) (by decide +kernel)) rfl
theorem im_Re_takeSleep : Cond.instanceMethod ⟨"LyingBeacons$Reader", "takeSleep", "(LLyingBeacons$Net;)Z"⟩ ∈ jm_tbl := jm_in (List.mem_of_getElem? (i := 394) (by decide +kernel)) rfl
theorem se_Re_takeSleep : Cond.selects "LyingBeacons$Reader" ⟨"LyingBeacons$Reader", "takeSleep", "(LLyingBeacons$Net;)Z"⟩ ⟨"LyingBeacons$Reader", "takeSleep", "(LLyingBeacons$Net;)Z"⟩ ∈ jm_tbl := jm_in (List.mem_of_getElem? (i := 8) (by decide +kernel)) rfl
def mY_Re_takeSight : jm_Y := (⟨"LyingBeacons$Reader", "takeSight", "(LLyingBeacons$Net;)Z"⟩, prog_7_method_8_code, 4, some .boolean, { frames := 2, cells := 0, slots := 0, locals := 43 }, none)
theorem cw_Re_takeSight : Cond.code (jm_nm mY_Re_takeSight) (jm_cd mY_Re_takeSight) (jm_ml mY_Re_takeSight) (jm_rt mY_Re_takeSight) ∈ jm_tbl := jm_in (List.mem_of_getElem? (i := 380) (by decide +kernel)) rfl
theorem ok_Re_takeSight : jm_ok mY_Re_takeSight 1 := ⟨by decide, rfl, cw_Re_takeSight, ini_Re, by decide +kernel⟩
theorem l0_Re_takeSight__Ne_isHill : jm_l0 mY_Re_takeSight mY_Ne_isHill := ⟨⟨Nat.le_of_ble_eq_true rfl, Nat.le_of_ble_eq_true rfl⟩, rfl, rfl⟩
theorem l0_Re_takeSight__Re_isSight : jm_l0 mY_Re_takeSight mY_Re_isSight := ⟨⟨Nat.le_of_ble_eq_true rfl, Nat.le_of_ble_eq_true rfl⟩, rfl, rfl⟩
theorem l0_Re_takeItem__Re_takeSight : jm_l0 mY_Re_takeItem mY_Re_takeSight := ⟨⟨Nat.le_of_ble_eq_true rfl, Nat.le_of_ble_eq_true rfl⟩, rfl, rfl⟩
theorem ml_Re_62 : Cond.methodLink "LyingBeacons$Reader" 62 ⟨"LyingBeacons$Reader", "takeSight", "(LLyingBeacons$Net;)Z"⟩ ∈ jm_tbl := jm_in (List.mem_of_getElem? (i := 377) (by decide +kernel)) rfl
theorem im_Re_takeSight : Cond.instanceMethod ⟨"LyingBeacons$Reader", "takeSight", "(LLyingBeacons$Net;)Z"⟩ ∈ jm_tbl := jm_in (List.mem_of_getElem? (i := 379) (by decide +kernel)) rfl
theorem se_Re_takeSight : Cond.selects "LyingBeacons$Reader" ⟨"LyingBeacons$Reader", "takeSight", "(LLyingBeacons$Net;)Z"⟩ ⟨"LyingBeacons$Reader", "takeSight", "(LLyingBeacons$Net;)Z"⟩ ∈ jm_tbl := jm_in (List.mem_of_getElem? (i := 5) (by decide +kernel)) rfl
def mY_Re_takeWood : jm_Y := (⟨"LyingBeacons$Reader", "takeWood", "(LLyingBeacons$Net;)Z"⟩, prog_7_method_10_code, 3, some .boolean, { frames := 1, cells := 0, slots := 0, locals := 21 }, none)
theorem cw_Re_takeWood : Cond.code (jm_nm mY_Re_takeWood) (jm_cd mY_Re_takeWood) (jm_ml mY_Re_takeWood) (jm_rt mY_Re_takeWood) ∈ jm_tbl := jm_in (List.mem_of_getElem? (i := 391) (by decide +kernel)) rfl
theorem ok_Re_takeWood : jm_ok mY_Re_takeWood 1 := ⟨by decide, rfl, cw_Re_takeWood, ini_Re, by decide +kernel⟩
theorem l0_Re_takeWood__Ne_isHill : jm_l0 mY_Re_takeWood mY_Ne_isHill := ⟨⟨Nat.le_of_ble_eq_true rfl, Nat.le_of_ble_eq_true rfl⟩, rfl, rfl⟩
theorem fo_Re_103 : jm_fo "LyingBeacons$Reader" 103 2 5 RX3 TX3 12 := ⟨inY3, rfl, by decide, jm_in (List.mem_of_getElem? (i := 153) (by decide +kernel)) rfl⟩
theorem l0_Re_takeItem__Re_takeWood : jm_l0 mY_Re_takeItem mY_Re_takeWood := ⟨⟨Nat.le_of_ble_eq_true rfl, Nat.le_of_ble_eq_true rfl⟩, rfl, rfl⟩
theorem ml_Re_68 : Cond.methodLink "LyingBeacons$Reader" 68 ⟨"LyingBeacons$Reader", "takeWood", "(LLyingBeacons$Net;)Z"⟩ ∈ jm_tbl := jm_in (List.mem_of_getElem? (i := 388) (by decide +kernel)) rfl
theorem im_Re_takeWood : Cond.instanceMethod ⟨"LyingBeacons$Reader", "takeWood", "(LLyingBeacons$Net;)Z"⟩ ∈ jm_tbl := jm_in (List.mem_of_getElem? (i := 390) (by decide +kernel)) rfl
theorem se_Re_takeWood : Cond.selects "LyingBeacons$Reader" ⟨"LyingBeacons$Reader", "takeWood", "(LLyingBeacons$Net;)Z"⟩ ⟨"LyingBeacons$Reader", "takeWood", "(LLyingBeacons$Net;)Z"⟩ ∈ jm_tbl := jm_in (List.mem_of_getElem? (i := 7) (by decide +kernel)) rfl
def mY_Re_takeHill : jm_Y := (⟨"LyingBeacons$Reader", "takeHill", "(LLyingBeacons$Net;)Z"⟩, prog_7_method_7_code, 3, some .boolean, { frames := 2, cells := 0, slots := 0, locals := 43 }, none)
theorem cw_Re_takeHill : Cond.code (jm_nm mY_Re_takeHill) (jm_cd mY_Re_takeHill) (jm_ml mY_Re_takeHill) (jm_rt mY_Re_takeHill) ∈ jm_tbl := jm_in (List.mem_of_getElem? (i := 364) (by decide +kernel)) rfl
theorem ok_Re_takeHill : jm_ok mY_Re_takeHill 1 := ⟨by decide, rfl, cw_Re_takeHill, ini_Re, by decide +kernel⟩
theorem fo_Re_80 : jm_fo "LyingBeacons$Reader" 80 2 0 RX3 TX3 12 := ⟨inY3, rfl, by decide, jm_in (List.mem_of_getElem? (i := 125) (by decide +kernel)) rfl⟩
theorem fp_Re_80 : jm_fp "LyingBeacons$Reader" 80 2 0 RX3 TX3 12 false .int := ⟨fo_Re_80, ⟨tyX3, tyX3_ok⟩, nmX3, rfl, by decide +kernel, fun h => by first | rfl | cases h⟩
def mY_Ne_hasEar : jm_Y := (⟨"LyingBeacons$Net", "hasEar", "()Z"⟩, prog_5_method_7_code, 1, some .boolean, { frames := 1, cells := 0, slots := 0, locals := 23 }, none)
theorem cw_Ne_hasEar : Cond.code (jm_nm mY_Ne_hasEar) (jm_cd mY_Ne_hasEar) (jm_ml mY_Ne_hasEar) (jm_rt mY_Ne_hasEar) ∈ jm_tbl := jm_in (List.mem_of_getElem? (i := 368) (by decide +kernel)) rfl
theorem ok_Ne_hasEar : jm_ok mY_Ne_hasEar 0 := ⟨by decide, rfl, cw_Ne_hasEar, ini_Ne, by decide +kernel⟩
def mY_Ne_ofKind : jm_Y := (⟨"LyingBeacons$Net", "ofKind", "(I)I"⟩, prog_5_method_5_code, 4, some .int, { frames := 0, cells := 0, slots := 0, locals := 0 }, none)
theorem cw_Ne_ofKind : Cond.code (jm_nm mY_Ne_ofKind) (jm_cd mY_Ne_ofKind) (jm_ml mY_Ne_ofKind) (jm_rt mY_Ne_ofKind) ∈ jm_tbl := jm_in (List.mem_of_getElem? (i := 372) (by decide +kernel)) rfl
theorem ok_Ne_ofKind : jm_ok mY_Ne_ofKind 1 := ⟨by decide, rfl, cw_Ne_ofKind, ini_Ne, by decide +kernel⟩
theorem l0_Ne_hasEar__Ne_ofKind : jm_l0 mY_Ne_hasEar mY_Ne_ofKind := ⟨⟨Nat.le_of_ble_eq_true rfl, Nat.le_of_ble_eq_true rfl⟩, rfl, rfl⟩
theorem ml_Ne_54 : Cond.methodLink "LyingBeacons$Net" 54 ⟨"LyingBeacons$Net", "ofKind", "(I)I"⟩ ∈ jm_tbl := jm_in (List.mem_of_getElem? (i := 369) (by decide +kernel)) rfl
theorem im_Ne_ofKind : Cond.instanceMethod ⟨"LyingBeacons$Net", "ofKind", "(I)I"⟩ ∈ jm_tbl := jm_in (List.mem_of_getElem? (i := 370) (by decide +kernel)) rfl
theorem se_Ne_ofKind : Cond.selects "LyingBeacons$Net" ⟨"LyingBeacons$Net", "ofKind", "(I)I"⟩ ⟨"LyingBeacons$Net", "ofKind", "(I)I"⟩ ∈ jm_tbl := jm_in (List.mem_of_getElem? (i := 371) (by decide +kernel)) rfl
theorem l0_Re_takeHill__Ne_hasEar : jm_l0 mY_Re_takeHill mY_Ne_hasEar := ⟨⟨Nat.le_of_ble_eq_true rfl, Nat.le_of_ble_eq_true rfl⟩, rfl, rfl⟩
theorem ml_Re_83 : Cond.methodLink "LyingBeacons$Reader" 83 ⟨"LyingBeacons$Net", "hasEar", "()Z"⟩ ∈ jm_tbl := jm_in (List.mem_of_getElem? (i := 365) (by decide +kernel)) rfl
theorem im_Ne_hasEar : Cond.instanceMethod ⟨"LyingBeacons$Net", "hasEar", "()Z"⟩ ∈ jm_tbl := jm_in (List.mem_of_getElem? (i := 366) (by decide +kernel)) rfl
theorem se_Ne_hasEar : Cond.selects "LyingBeacons$Net" ⟨"LyingBeacons$Net", "hasEar", "()Z"⟩ ⟨"LyingBeacons$Net", "hasEar", "()Z"⟩ ∈ jm_tbl := jm_in (List.mem_of_getElem? (i := 367) (by decide +kernel)) rfl
theorem l0_Re_takeItem__Re_takeHill : jm_l0 mY_Re_takeItem mY_Re_takeHill := ⟨⟨Nat.le_of_ble_eq_true rfl, Nat.le_of_ble_eq_true rfl⟩, rfl, rfl⟩
theorem ml_Re_55 : Cond.methodLink "LyingBeacons$Reader" 55 ⟨"LyingBeacons$Reader", "takeHill", "(LLyingBeacons$Net;)Z"⟩ ∈ jm_tbl := jm_in (List.mem_of_getElem? (i := 361) (by decide +kernel)) rfl
theorem im_Re_takeHill : Cond.instanceMethod ⟨"LyingBeacons$Reader", "takeHill", "(LLyingBeacons$Net;)Z"⟩ ∈ jm_tbl := jm_in (List.mem_of_getElem? (i := 363) (by decide +kernel)) rfl
theorem se_Re_takeHill : Cond.selects "LyingBeacons$Reader" ⟨"LyingBeacons$Reader", "takeHill", "(LLyingBeacons$Net;)Z"⟩ ⟨"LyingBeacons$Reader", "takeHill", "(LLyingBeacons$Net;)Z"⟩ ∈ jm_tbl := jm_in (List.mem_of_getElem? (i := 4) (by decide +kernel)) rfl
theorem l0_Re_firstFault__Re_takeItem : jm_l0 mY_Re_firstFault mY_Re_takeItem := ⟨⟨Nat.le_of_ble_eq_true rfl, Nat.le_of_ble_eq_true rfl⟩, rfl, rfl⟩
theorem ml_Re_44 : Cond.methodLink "LyingBeacons$Reader" 44 ⟨"LyingBeacons$Reader", "takeItem", "(LLyingBeacons$Net;)Z"⟩ ∈ jm_tbl := jm_in (List.mem_of_getElem? (i := 357) (by decide +kernel)) rfl
theorem im_Re_takeItem : Cond.instanceMethod ⟨"LyingBeacons$Reader", "takeItem", "(LLyingBeacons$Net;)Z"⟩ ∈ jm_tbl := jm_in (List.mem_of_getElem? (i := 359) (by decide +kernel)) rfl
theorem se_Re_takeItem : Cond.selects "LyingBeacons$Reader" ⟨"LyingBeacons$Reader", "takeItem", "(LLyingBeacons$Net;)Z"⟩ ⟨"LyingBeacons$Reader", "takeItem", "(LLyingBeacons$Net;)Z"⟩ ∈ jm_tbl := jm_in (List.mem_of_getElem? (i := 3) (by decide +kernel)) rfl
theorem ml_Re_40 : Cond.methodLink "LyingBeacons$Reader" 40 ⟨"LyingBeacons$Reader", "readItem", "([BI)Z"⟩ ∈ jm_tbl := jm_in (List.mem_of_getElem? (i := 345) (by decide +kernel)) rfl
theorem im_Re_readItem : Cond.instanceMethod ⟨"LyingBeacons$Reader", "readItem", "([BI)Z"⟩ ∈ jm_tbl := jm_in (List.mem_of_getElem? (i := 347) (by decide +kernel)) rfl
theorem se_Re_readItem : Cond.selects "LyingBeacons$Reader" ⟨"LyingBeacons$Reader", "readItem", "([BI)Z"⟩ ⟨"LyingBeacons$Reader", "readItem", "([BI)Z"⟩ ∈ jm_tbl := jm_in (List.mem_of_getElem? (i := 0) (by decide +kernel)) rfl
theorem ml_Re_35 : Cond.methodLink "LyingBeacons$Reader" 35 ⟨"LyingBeacons$Net", "clear", "()V"⟩ ∈ jm_tbl := jm_in (List.mem_of_getElem? (i := 344) (by decide +kernel)) rfl
theorem l0_X_fault__Re_firstFault : jm_l0 mY_X_fault mY_Re_firstFault := ⟨⟨Nat.le_of_ble_eq_true rfl, Nat.le_of_ble_eq_true rfl⟩, rfl, rfl⟩
theorem ml_X_82 : Cond.methodLink "LyingBeacons" 82 ⟨"LyingBeacons$Reader", "firstFault", "([BILLyingBeacons$Net;)I"⟩ ∈ jm_tbl := jm_in (List.mem_of_getElem? (i := 340) (by decide +kernel)) rfl
theorem im_Re_firstFault : Cond.instanceMethod ⟨"LyingBeacons$Reader", "firstFault", "([BILLyingBeacons$Net;)I"⟩ ∈ jm_tbl := jm_in (List.mem_of_getElem? (i := 341) (by decide +kernel)) rfl
theorem se_Re_firstFault : Cond.selects "LyingBeacons$Reader" ⟨"LyingBeacons$Reader", "firstFault", "([BILLyingBeacons$Net;)I"⟩ ⟨"LyingBeacons$Reader", "firstFault", "([BILLyingBeacons$Net;)I"⟩ ∈ jm_tbl := jm_in (List.mem_of_getElem? (i := 342) (by decide +kernel)) rfl
theorem l0_Law__X_fault (L : Nat) (xs : Nat → Int32) : jm_l0 (mY_Law L xs) mY_X_fault := ⟨⟨Nat.le_of_ble_eq_true rfl, Nat.le_of_ble_eq_true rfl⟩, rfl, rfl⟩
def mY_Z_fault : jm_Y := (⟨"LyingBeaconsModel", "fault", "()I"⟩, prog_11_method_16_code, 1, some .int, { frames := 5, cells := 0, slots := 0, locals := 117 }, none)
theorem cw_Z_fault : Cond.code (jm_nm mY_Z_fault) (jm_cd mY_Z_fault) (jm_ml mY_Z_fault) (jm_rt mY_Z_fault) ∈ jm_tbl := jm_in (List.mem_of_getElem? (i := 867) (by decide +kernel)) rfl
theorem ok_Z_fault : jm_ok mY_Z_fault 0 := ⟨by decide, rfl, cw_Z_fault, ini_Z, by decide +kernel⟩
def mY_Z_readAll : jm_Y := (⟨"LyingBeaconsModel", "readAll", "()I"⟩, prog_11_method_15_code, 2, some .int, { frames := 4, cells := 0, slots := 0, locals := 96 }, none)
theorem cw_Z_readAll : Cond.code (jm_nm mY_Z_readAll) (jm_cd mY_Z_readAll) (jm_ml mY_Z_readAll) (jm_rt mY_Z_readAll) ∈ jm_tbl := jm_in (List.mem_of_getElem? (i := 871) (by decide +kernel)) rfl
theorem ok_Z_readAll : jm_ok mY_Z_readAll 0 := ⟨by decide, rfl, cw_Z_readAll, ini_Z, by decide +kernel⟩
theorem mr_154_59_2 : mr_154 59 2 = some 61 := by decide
theorem mr_154_59_8 : mr_154 59 8 = some 67 := by decide
theorem fo_Z_105 : jm_fo "LyingBeaconsModel" 105 8 17 RX9 TX9 30 := ⟨inY9, rfl, by decide, jm_in (List.mem_of_getElem? (i := 777) (by decide +kernel)) rfl⟩
theorem fp_Z_105 : jm_fp "LyingBeaconsModel" 105 8 17 RX9 TX9 30 false .int := ⟨fo_Z_105, ⟨tyX9, tyX9_ok⟩, nmX9, rfl, by decide +kernel, fun h => by first | rfl | cases h⟩
theorem fo_Z_108 : jm_fo "LyingBeaconsModel" 108 8 18 RX9 TX9 30 := ⟨inY9, rfl, by decide, jm_in (List.mem_of_getElem? (i := 778) (by decide +kernel)) rfl⟩
theorem fp_Z_108 : jm_fp "LyingBeaconsModel" 108 8 18 RX9 TX9 30 false .int := ⟨fo_Z_108, ⟨tyX9, tyX9_ok⟩, nmX9, rfl, by decide +kernel, fun h => by first | rfl | cases h⟩
theorem fo_Z_92 : jm_fo "LyingBeaconsModel" 92 8 19 RX9 TX9 30 := ⟨inY9, rfl, by decide, jm_in (List.mem_of_getElem? (i := 779) (by decide +kernel)) rfl⟩
theorem fp_Z_92 : jm_fp "LyingBeaconsModel" 92 8 19 RX9 TX9 30 false .boolean := ⟨fo_Z_92, ⟨tyX9, tyX9_ok⟩, nmX9, rfl, by decide +kernel, fun h => by first | rfl | cases h⟩
theorem fo_Z_79 : jm_fo "LyingBeaconsModel" 79 8 15 RX9 TX9 30 := ⟨inY9, rfl, by decide, jm_in (List.mem_of_getElem? (i := 775) (by decide +kernel)) rfl⟩
theorem fp_Z_79 : jm_fp "LyingBeaconsModel" 79 8 15 RX9 TX9 30 false .int := ⟨fo_Z_79, ⟨tyX9, tyX9_ok⟩, nmX9, rfl, by decide +kernel, fun h => by first | rfl | cases h⟩
def mY_Z_item : jm_Y := (⟨"LyingBeaconsModel", "item", "()Z"⟩, prog_11_method_14_code, 2, some .boolean, { frames := 3, cells := 0, slots := 0, locals := 75 }, none)
theorem cw_Z_item : Cond.code (jm_nm mY_Z_item) (jm_cd mY_Z_item) (jm_ml mY_Z_item) (jm_rt mY_Z_item) ∈ jm_tbl := jm_in (List.mem_of_getElem? (i := 875) (by decide +kernel)) rfl
theorem ok_Z_item : jm_ok mY_Z_item 0 := ⟨by decide, rfl, cw_Z_item, ini_Z, by decide +kernel⟩
def mY_Z_spanItem : jm_Y := (⟨"LyingBeaconsModel", "spanItem", "(I)Z"⟩, prog_11_method_13_code, 7, some .boolean, { frames := 2, cells := 0, slots := 0, locals := 49 }, none)
theorem cw_Z_spanItem : Cond.code (jm_nm mY_Z_spanItem) (jm_cd mY_Z_spanItem) (jm_ml mY_Z_spanItem) (jm_rt mY_Z_spanItem) ∈ jm_tbl := jm_in (List.mem_of_getElem? (i := 910) (by decide +kernel)) rfl
theorem ok_Z_spanItem : jm_ok mY_Z_spanItem 1 := ⟨by decide, rfl, cw_Z_spanItem, ini_Z, by decide +kernel⟩
theorem cb_103 : (Int8.ofInt 103).toInt32 = (103 : Int32) := by decide
def mY_Z_numbers : jm_Y := (⟨"LyingBeaconsModel", "numbers", "(I)Z"⟩, prog_11_method_7_code, 5, some .boolean, { frames := 1, cells := 0, slots := 0, locals := 25 }, none)
theorem cw_Z_numbers : Cond.code (jm_nm mY_Z_numbers) (jm_cd mY_Z_numbers) (jm_ml mY_Z_numbers) (jm_rt mY_Z_numbers) ∈ jm_tbl := jm_in (List.mem_of_getElem? (i := 883) (by decide +kernel)) rfl
theorem ok_Z_numbers : jm_ok mY_Z_numbers 1 := ⟨by decide, rfl, cw_Z_numbers, ini_Z, by decide +kernel⟩
theorem kl_Z_86 : Cond.constantLong "LyingBeaconsModel" 86 (2 : Int64) ∈ jm_tbl := jm_in (List.mem_of_getElem? (i := 886) (by decide +kernel)) rfl
theorem l0_Z_numbers__Z_in : jm_l0 mY_Z_numbers mY_Z_in := ⟨⟨Nat.le_of_ble_eq_true rfl, Nat.le_of_ble_eq_true rfl⟩, rfl, rfl⟩
theorem mr_154_59_16 : mr_154 59 16 = some 73 := by decide
theorem le_73_78 : 73 ≤ 78 := by decide
theorem kl_Z_82 : Cond.constantLong "LyingBeaconsModel" 82 (48 : Int64) ∈ jm_tbl := jm_in (List.mem_of_getElem? (i := 884) (by decide +kernel)) rfl
theorem kl_Z_84 : Cond.constantLong "LyingBeaconsModel" 84 (57 : Int64) ∈ jm_tbl := jm_in (List.mem_of_getElem? (i := 885) (by decide +kernel)) rfl
theorem l0_Z_spanItem__Z_numbers : jm_l0 mY_Z_spanItem mY_Z_numbers := ⟨⟨Nat.le_of_ble_eq_true rfl, Nat.le_of_ble_eq_true rfl⟩, rfl, rfl⟩
def mY_Z_isRead : jm_Y := (⟨"LyingBeaconsModel", "isRead", "(I)Z"⟩, prog_11_method_8_code, 2, some .boolean, { frames := 1, cells := 0, slots := 0, locals := 25 }, none)
theorem cw_Z_isRead : Cond.code (jm_nm mY_Z_isRead) (jm_cd mY_Z_isRead) (jm_ml mY_Z_isRead) (jm_rt mY_Z_isRead) ∈ jm_tbl := jm_in (List.mem_of_getElem? (i := 894) (by decide +kernel)) rfl
theorem ok_Z_isRead : jm_ok mY_Z_isRead 1 := ⟨by decide, rfl, cw_Z_isRead, ini_Z, by decide +kernel⟩
theorem l0_Z_isRead__Z_in : jm_l0 mY_Z_isRead mY_Z_in := ⟨⟨Nat.le_of_ble_eq_true rfl, Nat.le_of_ble_eq_true rfl⟩, rfl, rfl⟩
theorem le_61_78 : 61 ≤ 78 := by decide
theorem l0_Z_spanItem__Z_isRead : jm_l0 mY_Z_spanItem mY_Z_isRead := ⟨⟨Nat.le_of_ble_eq_true rfl, Nat.le_of_ble_eq_true rfl⟩, rfl, rfl⟩
theorem mr_154_59_3 : mr_154 59 3 = some 62 := by decide
theorem cb_108 : (Int8.ofInt 108).toInt32 = (108 : Int32) := by decide
theorem cs_645 : (Int16.ofInt 645).toInt32 = (645 : Int32) := by decide
theorem ci_5 : Int32.ofInt 5 = (5 : Int32) := by decide
theorem mr_154_59_9 : mr_154 59 9 = some 68 := by decide
theorem le_67_78 : 67 ≤ 78 := by decide
theorem le_68_78 : 68 ≤ 78 := by decide
theorem mr_154_59_4 : mr_154 59 4 = some 63 := by decide
def mY_Z_has : jm_Y := (⟨"LyingBeaconsModel", "has", "(II)Z"⟩, prog_11_method_3_code, 2, some .boolean, { frames := 0, cells := 0, slots := 0, locals := 0 }, none)
theorem cw_Z_has : Cond.code (jm_nm mY_Z_has) (jm_cd mY_Z_has) (jm_ml mY_Z_has) (jm_rt mY_Z_has) ∈ jm_tbl := jm_in (List.mem_of_getElem? (i := 897) (by decide +kernel)) rfl
theorem ok_Z_has : jm_ok mY_Z_has 2 := ⟨by decide, rfl, cw_Z_has, ini_Z, by decide +kernel⟩
theorem l0_Z_spanItem__Z_has : jm_l0 mY_Z_spanItem mY_Z_has := ⟨⟨Nat.le_of_ble_eq_true rfl, Nat.le_of_ble_eq_true rfl⟩, rfl, rfl⟩
theorem ml_Z_99 : Cond.methodLink "LyingBeaconsModel" 99 ⟨"LyingBeaconsModel", "has", "(II)Z"⟩ ∈ jm_tbl := jm_in (List.mem_of_getElem? (i := 895) (by decide +kernel)) rfl
theorem sm_Z_has : Cond.static ⟨"LyingBeaconsModel", "has", "(II)Z"⟩ ∈ jm_tbl := jm_in (List.mem_of_getElem? (i := 896) (by decide +kernel)) rfl
theorem le_63_78 : 63 ≤ 78 := by decide
theorem ml_Z_96 : Cond.methodLink "LyingBeaconsModel" 96 ⟨"LyingBeaconsModel", "isRead", "(I)Z"⟩ ∈ jm_tbl := jm_in (List.mem_of_getElem? (i := 891) (by decide +kernel)) rfl
theorem im_Z_isRead : Cond.instanceMethod ⟨"LyingBeaconsModel", "isRead", "(I)Z"⟩ ∈ jm_tbl := jm_in (List.mem_of_getElem? (i := 893) (by decide +kernel)) rfl
theorem se_Z_isRead : Cond.selects "LyingBeaconsModel" ⟨"LyingBeaconsModel", "isRead", "(I)Z"⟩ ⟨"LyingBeaconsModel", "isRead", "(I)Z"⟩ ∈ jm_tbl := jm_in (List.mem_of_getElem? (i := 29) (by decide +kernel)) rfl
theorem le_62_78 : 62 ≤ 78 := by decide
theorem ml_Z_88 : Cond.methodLink "LyingBeaconsModel" 88 ⟨"LyingBeaconsModel", "numbers", "(I)Z"⟩ ∈ jm_tbl := jm_in (List.mem_of_getElem? (i := 880) (by decide +kernel)) rfl
theorem im_Z_numbers : Cond.instanceMethod ⟨"LyingBeaconsModel", "numbers", "(I)Z"⟩ ∈ jm_tbl := jm_in (List.mem_of_getElem? (i := 882) (by decide +kernel)) rfl
theorem se_Z_numbers : Cond.selects "LyingBeaconsModel" ⟨"LyingBeaconsModel", "numbers", "(I)Z"⟩ ⟨"LyingBeaconsModel", "numbers", "(I)Z"⟩ ∈ jm_tbl := jm_in (List.mem_of_getElem? (i := 27) (by decide +kernel)) rfl
theorem l0_Z_item__Z_spanItem : jm_l0 mY_Z_item mY_Z_spanItem := ⟨⟨Nat.le_of_ble_eq_true rfl, Nat.le_of_ble_eq_true rfl⟩, rfl, rfl⟩
theorem ml_Z_124 : Cond.methodLink "LyingBeaconsModel" 124 ⟨"LyingBeaconsModel", "spanItem", "(I)Z"⟩ ∈ jm_tbl := jm_in (List.mem_of_getElem? (i := 907) (by decide +kernel)) rfl
theorem im_Z_spanItem : Cond.instanceMethod ⟨"LyingBeaconsModel", "spanItem", "(I)Z"⟩ ∈ jm_tbl := jm_in (List.mem_of_getElem? (i := 909) (by decide +kernel)) rfl
theorem se_Z_spanItem : Cond.selects "LyingBeaconsModel" ⟨"LyingBeaconsModel", "spanItem", "(I)Z"⟩ ⟨"LyingBeaconsModel", "spanItem", "(I)Z"⟩ ∈ jm_tbl := jm_in (List.mem_of_getElem? (i := 32) (by decide +kernel)) rfl
def mY_Z_ruleItem : jm_Y := (⟨"LyingBeaconsModel", "ruleItem", "()Z"⟩, prog_11_method_11_code, 1, some .boolean, { frames := 2, cells := 0, slots := 0, locals := 49 }, none)
theorem cw_Z_ruleItem : Cond.code (jm_nm mY_Z_ruleItem) (jm_cd mY_Z_ruleItem) (jm_ml mY_Z_ruleItem) (jm_rt mY_Z_ruleItem) ∈ jm_tbl := jm_in (List.mem_of_getElem? (i := 901) (by decide +kernel)) rfl
theorem ok_Z_ruleItem : jm_ok mY_Z_ruleItem 0 := ⟨by decide, rfl, cw_Z_ruleItem, ini_Z, by decide +kernel⟩
theorem l0_Z_ruleItem__Z_numbers : jm_l0 mY_Z_ruleItem mY_Z_numbers := ⟨⟨Nat.le_of_ble_eq_true rfl, Nat.le_of_ble_eq_true rfl⟩, rfl, rfl⟩
theorem l0_Z_ruleItem__Z_isRead : jm_l0 mY_Z_ruleItem mY_Z_isRead := ⟨⟨Nat.le_of_ble_eq_true rfl, Nat.le_of_ble_eq_true rfl⟩, rfl, rfl⟩
theorem kl_Z_103 : Cond.constantLong "LyingBeaconsModel" 103 (9 : Int64) ∈ jm_tbl := jm_in (List.mem_of_getElem? (i := 902) (by decide +kernel)) rfl
theorem l0_Z_ruleItem__Z_in : jm_l0 mY_Z_ruleItem mY_Z_in := ⟨⟨Nat.le_of_ble_eq_true rfl, Nat.le_of_ble_eq_true rfl⟩, rfl, rfl⟩
theorem l0_Z_ruleItem__Z_has : jm_l0 mY_Z_ruleItem mY_Z_has := ⟨⟨Nat.le_of_ble_eq_true rfl, Nat.le_of_ble_eq_true rfl⟩, rfl, rfl⟩
theorem mr_154_59_5 : mr_154 59 5 = some 64 := by decide
theorem mr_154_59_6 : mr_154 59 6 = some 65 := by decide
theorem le_65_78 : 65 ≤ 78 := by decide
theorem le_64_78 : 64 ≤ 78 := by decide
theorem l0_Z_item__Z_ruleItem : jm_l0 mY_Z_item mY_Z_ruleItem := ⟨⟨Nat.le_of_ble_eq_true rfl, Nat.le_of_ble_eq_true rfl⟩, rfl, rfl⟩
theorem ml_Z_118 : Cond.methodLink "LyingBeaconsModel" 118 ⟨"LyingBeaconsModel", "ruleItem", "()Z"⟩ ∈ jm_tbl := jm_in (List.mem_of_getElem? (i := 898) (by decide +kernel)) rfl
theorem im_Z_ruleItem : Cond.instanceMethod ⟨"LyingBeaconsModel", "ruleItem", "()Z"⟩ ∈ jm_tbl := jm_in (List.mem_of_getElem? (i := 900) (by decide +kernel)) rfl
theorem se_Z_ruleItem : Cond.selects "LyingBeaconsModel" ⟨"LyingBeaconsModel", "ruleItem", "()Z"⟩ ⟨"LyingBeaconsModel", "ruleItem", "()Z"⟩ ∈ jm_tbl := jm_in (List.mem_of_getElem? (i := 30) (by decide +kernel)) rfl
def mY_Z_seeItem : jm_Y := (⟨"LyingBeaconsModel", "seeItem", "()Z"⟩, prog_11_method_10_code, 1, some .boolean, { frames := 2, cells := 0, slots := 0, locals := 49 }, none)
theorem cw_Z_seeItem : Cond.code (jm_nm mY_Z_seeItem) (jm_cd mY_Z_seeItem) (jm_ml mY_Z_seeItem) (jm_rt mY_Z_seeItem) ∈ jm_tbl := jm_in (List.mem_of_getElem? (i := 890) (by decide +kernel)) rfl
theorem ok_Z_seeItem : jm_ok mY_Z_seeItem 0 := ⟨by decide, rfl, cw_Z_seeItem, ini_Z, by decide +kernel⟩
theorem l0_Z_seeItem__Z_numbers : jm_l0 mY_Z_seeItem mY_Z_numbers := ⟨⟨Nat.le_of_ble_eq_true rfl, Nat.le_of_ble_eq_true rfl⟩, rfl, rfl⟩
theorem l0_Z_seeItem__Z_isRead : jm_l0 mY_Z_seeItem mY_Z_isRead := ⟨⟨Nat.le_of_ble_eq_true rfl, Nat.le_of_ble_eq_true rfl⟩, rfl, rfl⟩
theorem l0_Z_seeItem__Z_has : jm_l0 mY_Z_seeItem mY_Z_has := ⟨⟨Nat.le_of_ble_eq_true rfl, Nat.le_of_ble_eq_true rfl⟩, rfl, rfl⟩
theorem l0_Z_item__Z_seeItem : jm_l0 mY_Z_item mY_Z_seeItem := ⟨⟨Nat.le_of_ble_eq_true rfl, Nat.le_of_ble_eq_true rfl⟩, rfl, rfl⟩
theorem ml_Z_115 : Cond.methodLink "LyingBeaconsModel" 115 ⟨"LyingBeaconsModel", "seeItem", "()Z"⟩ ∈ jm_tbl := jm_in (List.mem_of_getElem? (i := 887) (by decide +kernel)) rfl
theorem im_Z_seeItem : Cond.instanceMethod ⟨"LyingBeaconsModel", "seeItem", "()Z"⟩ ∈ jm_tbl := jm_in (List.mem_of_getElem? (i := 889) (by decide +kernel)) rfl
theorem se_Z_seeItem : Cond.selects "LyingBeaconsModel" ⟨"LyingBeaconsModel", "seeItem", "()Z"⟩ ⟨"LyingBeaconsModel", "seeItem", "()Z"⟩ ∈ jm_tbl := jm_in (List.mem_of_getElem? (i := 28) (by decide +kernel)) rfl
def mY_Z_woodItem : jm_Y := (⟨"LyingBeaconsModel", "woodItem", "()Z"⟩, prog_11_method_12_code, 1, some .boolean, { frames := 2, cells := 0, slots := 0, locals := 49 }, none)
theorem cw_Z_woodItem : Cond.code (jm_nm mY_Z_woodItem) (jm_cd mY_Z_woodItem) (jm_ml mY_Z_woodItem) (jm_rt mY_Z_woodItem) ∈ jm_tbl := jm_in (List.mem_of_getElem? (i := 906) (by decide +kernel)) rfl
theorem ok_Z_woodItem : jm_ok mY_Z_woodItem 0 := ⟨by decide, rfl, cw_Z_woodItem, ini_Z, by decide +kernel⟩
theorem l0_Z_woodItem__Z_numbers : jm_l0 mY_Z_woodItem mY_Z_numbers := ⟨⟨Nat.le_of_ble_eq_true rfl, Nat.le_of_ble_eq_true rfl⟩, rfl, rfl⟩
theorem l0_Z_woodItem__Z_isRead : jm_l0 mY_Z_woodItem mY_Z_isRead := ⟨⟨Nat.le_of_ble_eq_true rfl, Nat.le_of_ble_eq_true rfl⟩, rfl, rfl⟩
theorem l0_Z_woodItem__Z_has : jm_l0 mY_Z_woodItem mY_Z_has := ⟨⟨Nat.le_of_ble_eq_true rfl, Nat.le_of_ble_eq_true rfl⟩, rfl, rfl⟩
theorem mr_154_59_7 : mr_154 59 7 = some 66 := by decide
theorem le_66_78 : 66 ≤ 78 := by decide
theorem l0_Z_item__Z_woodItem : jm_l0 mY_Z_item mY_Z_woodItem := ⟨⟨Nat.le_of_ble_eq_true rfl, Nat.le_of_ble_eq_true rfl⟩, rfl, rfl⟩
theorem ml_Z_121 : Cond.methodLink "LyingBeaconsModel" 121 ⟨"LyingBeaconsModel", "woodItem", "()Z"⟩ ∈ jm_tbl := jm_in (List.mem_of_getElem? (i := 903) (by decide +kernel)) rfl
theorem im_Z_woodItem : Cond.instanceMethod ⟨"LyingBeaconsModel", "woodItem", "()Z"⟩ ∈ jm_tbl := jm_in (List.mem_of_getElem? (i := 905) (by decide +kernel)) rfl
theorem se_Z_woodItem : Cond.selects "LyingBeaconsModel" ⟨"LyingBeaconsModel", "woodItem", "()Z"⟩ ⟨"LyingBeaconsModel", "woodItem", "()Z"⟩ ∈ jm_tbl := jm_in (List.mem_of_getElem? (i := 31) (by decide +kernel)) rfl
def mY_Z_hillItem : jm_Y := (⟨"LyingBeaconsModel", "hillItem", "()Z"⟩, prog_11_method_9_code, 2, some .boolean, { frames := 2, cells := 0, slots := 0, locals := 49 }, none)
theorem cw_Z_hillItem : Cond.code (jm_nm mY_Z_hillItem) (jm_cd mY_Z_hillItem) (jm_ml mY_Z_hillItem) (jm_rt mY_Z_hillItem) ∈ jm_tbl := jm_in (List.mem_of_getElem? (i := 879) (by decide +kernel)) rfl
theorem ok_Z_hillItem : jm_ok mY_Z_hillItem 0 := ⟨by decide, rfl, cw_Z_hillItem, ini_Z, by decide +kernel⟩
theorem l0_Z_hillItem__Z_numbers : jm_l0 mY_Z_hillItem mY_Z_numbers := ⟨⟨Nat.le_of_ble_eq_true rfl, Nat.le_of_ble_eq_true rfl⟩, rfl, rfl⟩
theorem l0_Z_item__Z_hillItem : jm_l0 mY_Z_item mY_Z_hillItem := ⟨⟨Nat.le_of_ble_eq_true rfl, Nat.le_of_ble_eq_true rfl⟩, rfl, rfl⟩
theorem ml_Z_111 : Cond.methodLink "LyingBeaconsModel" 111 ⟨"LyingBeaconsModel", "hillItem", "()Z"⟩ ∈ jm_tbl := jm_in (List.mem_of_getElem? (i := 876) (by decide +kernel)) rfl
theorem im_Z_hillItem : Cond.instanceMethod ⟨"LyingBeaconsModel", "hillItem", "()Z"⟩ ∈ jm_tbl := jm_in (List.mem_of_getElem? (i := 878) (by decide +kernel)) rfl
theorem se_Z_hillItem : Cond.selects "LyingBeaconsModel" ⟨"LyingBeaconsModel", "hillItem", "()Z"⟩ ⟨"LyingBeaconsModel", "hillItem", "()Z"⟩ ∈ jm_tbl := jm_in (List.mem_of_getElem? (i := 26) (by decide +kernel)) rfl
theorem l0_Z_readAll__Z_item : jm_l0 mY_Z_readAll mY_Z_item := ⟨⟨Nat.le_of_ble_eq_true rfl, Nat.le_of_ble_eq_true rfl⟩, rfl, rfl⟩
theorem ml_Z_127 : Cond.methodLink "LyingBeaconsModel" 127 ⟨"LyingBeaconsModel", "item", "()Z"⟩ ∈ jm_tbl := jm_in (List.mem_of_getElem? (i := 872) (by decide +kernel)) rfl
theorem im_Z_item : Cond.instanceMethod ⟨"LyingBeaconsModel", "item", "()Z"⟩ ∈ jm_tbl := jm_in (List.mem_of_getElem? (i := 874) (by decide +kernel)) rfl
theorem se_Z_item : Cond.selects "LyingBeaconsModel" ⟨"LyingBeaconsModel", "item", "()Z"⟩ ⟨"LyingBeaconsModel", "item", "()Z"⟩ ∈ jm_tbl := jm_in (List.mem_of_getElem? (i := 25) (by decide +kernel)) rfl
theorem l0_Z_fault__Z_readAll : jm_l0 mY_Z_fault mY_Z_readAll := ⟨⟨Nat.le_of_ble_eq_true rfl, Nat.le_of_ble_eq_true rfl⟩, rfl, rfl⟩
theorem ml_Z_130 : Cond.methodLink "LyingBeaconsModel" 130 ⟨"LyingBeaconsModel", "readAll", "()I"⟩ ∈ jm_tbl := jm_in (List.mem_of_getElem? (i := 868) (by decide +kernel)) rfl
theorem im_Z_readAll : Cond.instanceMethod ⟨"LyingBeaconsModel", "readAll", "()I"⟩ ∈ jm_tbl := jm_in (List.mem_of_getElem? (i := 870) (by decide +kernel)) rfl
theorem se_Z_readAll : Cond.selects "LyingBeaconsModel" ⟨"LyingBeaconsModel", "readAll", "()I"⟩ ⟨"LyingBeaconsModel", "readAll", "()I"⟩ ∈ jm_tbl := jm_in (List.mem_of_getElem? (i := 24) (by decide +kernel)) rfl
theorem l0_Law__Z_fault (L : Nat) (xs : Nat → Int32) : jm_l0 (mY_Law L xs) mY_Z_fault := ⟨⟨Nat.le_of_ble_eq_true rfl, Nat.le_of_ble_eq_true rfl⟩, rfl, rfl⟩
theorem ml_Law_28 : Cond.methodLink "LyingBeaconsLaw" 28 ⟨"LyingBeaconsModel", "fault", "()I"⟩ ∈ jm_tbl := jm_in (List.mem_of_getElem? (i := 864) (by decide +kernel)) rfl
theorem im_Z_fault : Cond.instanceMethod ⟨"LyingBeaconsModel", "fault", "()I"⟩ ∈ jm_tbl := jm_in (List.mem_of_getElem? (i := 865) (by decide +kernel)) rfl
theorem se_Z_fault : Cond.selects "LyingBeaconsModel" ⟨"LyingBeaconsModel", "fault", "()I"⟩ ⟨"LyingBeaconsModel", "fault", "()I"⟩ ∈ jm_tbl := jm_in (List.mem_of_getElem? (i := 866) (by decide +kernel)) rfl
theorem ml_Law_25 : Cond.methodLink "LyingBeaconsLaw" 25 ⟨"LyingBeacons", "fault", "()I"⟩ ∈ jm_tbl := jm_in (List.mem_of_getElem? (i := 336) (by decide +kernel)) rfl
theorem im_X_fault : Cond.instanceMethod ⟨"LyingBeacons", "fault", "()I"⟩ ∈ jm_tbl := jm_in (List.mem_of_getElem? (i := 337) (by decide +kernel)) rfl
theorem se_X_fault : Cond.selects "LyingBeacons" ⟨"LyingBeacons", "fault", "()I"⟩ ⟨"LyingBeacons", "fault", "()I"⟩ ∈ jm_tbl := jm_in (List.mem_of_getElem? (i := 338) (by decide +kernel)) rfl
def mY_X_lay : jm_Y := (⟨"LyingBeacons", "lay", "()I"⟩, prog_1_method_5_code, 1, some .int, { frames := 5, cells := 0, slots := 0, locals := 114 }, none)
theorem cw_X_lay : Cond.code (jm_nm mY_X_lay) (jm_cd mY_X_lay) (jm_ml mY_X_lay) (jm_rt mY_X_lay) ∈ jm_tbl := jm_in (List.mem_of_getElem? (i := 423) (by decide +kernel)) rfl
theorem ok_X_lay : jm_ok mY_X_lay 0 := ⟨by decide, rfl, cw_X_lay, ini_X, by decide +kernel⟩
theorem l0_X_lay__Re_firstFault : jm_l0 mY_X_lay mY_Re_firstFault := ⟨⟨Nat.le_of_ble_eq_true rfl, Nat.le_of_ble_eq_true rfl⟩, rfl, rfl⟩
theorem mr_154_1_4 : mr_154 1 4 = some 15 := by decide
def mY_Ne_become : jm_Y := (⟨"LyingBeacons$Net", "become", "(LLyingBeacons$Net;)V"⟩, prog_5_method_3_code, 3, none, { frames := 0, cells := 0, slots := 0, locals := 0 }, none)
theorem cw_Ne_become : Cond.code (jm_nm mY_Ne_become) (jm_cd mY_Ne_become) (jm_ml mY_Ne_become) (jm_rt mY_Ne_become) ∈ jm_tbl := jm_in (List.mem_of_getElem? (i := 427) (by decide +kernel)) rfl
theorem ok_Ne_become : jm_ok mY_Ne_become 1 := ⟨by decide, rfl, cw_Ne_become, ini_Ne, by decide +kernel⟩
theorem le_15_78 : 15 ≤ 78 := by decide
theorem mr_154_15_9 : mr_154 15 9 = some 24 := by decide
theorem le_24_78 : 24 ≤ 78 := by decide
theorem mr_154_15_1 : mr_154 15 1 = some 16 := by decide
theorem mr_154_15_2 : mr_154 15 2 = some 17 := by decide
theorem mr_154_15_3 : mr_154 15 3 = some 18 := by decide
theorem mr_154_15_4 : mr_154 15 4 = some 19 := by decide
theorem mr_154_15_5 : mr_154 15 5 = some 20 := by decide
theorem mr_154_15_6 : mr_154 15 6 = some 21 := by decide
theorem mr_154_15_7 : mr_154 15 7 = some 22 := by decide
theorem mr_154_15_8 : mr_154 15 8 = some 23 := by decide
theorem le_23_78 : 23 ≤ 78 := by decide
theorem le_22_78 : 22 ≤ 78 := by decide
theorem le_21_78 : 21 ≤ 78 := by decide
theorem le_20_78 : 20 ≤ 78 := by decide
theorem le_19_78 : 19 ≤ 78 := by decide
theorem le_18_78 : 18 ≤ 78 := by decide
theorem le_17_78 : 17 ≤ 78 := by decide
theorem le_16_78 : 16 ≤ 78 := by decide
theorem l0_X_lay__Ne_become : jm_l0 mY_X_lay mY_Ne_become := ⟨⟨Nat.le_of_ble_eq_true rfl, Nat.le_of_ble_eq_true rfl⟩, rfl, rfl⟩
theorem fo_X_90 : jm_fo "LyingBeacons" 90 2 0 RX3 TX3 12 := ⟨inY3, rfl, by decide, jm_in (List.mem_of_getElem? (i := 124) (by decide +kernel)) rfl⟩
theorem ml_X_86 : Cond.methodLink "LyingBeacons" 86 ⟨"LyingBeacons$Net", "become", "(LLyingBeacons$Net;)V"⟩ ∈ jm_tbl := jm_in (List.mem_of_getElem? (i := 424) (by decide +kernel)) rfl
theorem im_Ne_become : Cond.instanceMethod ⟨"LyingBeacons$Net", "become", "(LLyingBeacons$Net;)V"⟩ ∈ jm_tbl := jm_in (List.mem_of_getElem? (i := 425) (by decide +kernel)) rfl
theorem se_Ne_become : Cond.selects "LyingBeacons$Net" ⟨"LyingBeacons$Net", "become", "(LLyingBeacons$Net;)V"⟩ ⟨"LyingBeacons$Net", "become", "(LLyingBeacons$Net;)V"⟩ ∈ jm_tbl := jm_in (List.mem_of_getElem? (i := 426) (by decide +kernel)) rfl
theorem cb_m2 : (Int8.ofInt (-2)).toInt32 = (-2 : Int32) := by decide
theorem l0_Law__X_lay (L : Nat) (xs : Nat → Int32) : jm_l0 (mY_Law L xs) mY_X_lay := ⟨⟨Nat.le_of_ble_eq_true rfl, Nat.le_of_ble_eq_true rfl⟩, rfl, rfl⟩
def mY_Z_lay : jm_Y := (⟨"LyingBeaconsModel", "lay", "()I"⟩, prog_11_method_18_code, 2, some .int, { frames := 5, cells := 0, slots := 0, locals := 117 }, none)
theorem cw_Z_lay : Cond.code (jm_nm mY_Z_lay) (jm_cd mY_Z_lay) (jm_ml mY_Z_lay) (jm_rt mY_Z_lay) ∈ jm_tbl := jm_in (List.mem_of_getElem? (i := 914) (by decide +kernel)) rfl
theorem ok_Z_lay : jm_ok mY_Z_lay 0 := ⟨by decide, rfl, cw_Z_lay, ini_Z, by decide +kernel⟩
theorem l0_Z_lay__Z_readAll : jm_l0 mY_Z_lay mY_Z_readAll := ⟨⟨Nat.le_of_ble_eq_true rfl, Nat.le_of_ble_eq_true rfl⟩, rfl, rfl⟩
def mY_Z_copy : jm_Y := (⟨"LyingBeaconsModel", "copy", "(II)V"⟩, prog_11_method_17_code, 4, none, { frames := 0, cells := 0, slots := 0, locals := 0 }, none)
theorem cw_Z_copy : Cond.code (jm_nm mY_Z_copy) (jm_cd mY_Z_copy) (jm_ml mY_Z_copy) (jm_rt mY_Z_copy) ∈ jm_tbl := jm_in (List.mem_of_getElem? (i := 918) (by decide +kernel)) rfl
theorem ok_Z_copy : jm_ok mY_Z_copy 2 := ⟨by decide, rfl, cw_Z_copy, ini_Z, by decide +kernel⟩
theorem cs_215 : (Int16.ofInt 215).toInt32 = (215 : Int32) := by decide
theorem l0_Z_lay__Z_copy : jm_l0 mY_Z_lay mY_Z_copy := ⟨⟨Nat.le_of_ble_eq_true rfl, Nat.le_of_ble_eq_true rfl⟩, rfl, rfl⟩
theorem mr_154_59_10 : mr_154 59 10 = some 69 := by decide
theorem le_69_78 : 69 ≤ 78 := by decide
theorem ml_Z_134 : Cond.methodLink "LyingBeaconsModel" 134 ⟨"LyingBeaconsModel", "copy", "(II)V"⟩ ∈ jm_tbl := jm_in (List.mem_of_getElem? (i := 915) (by decide +kernel)) rfl
theorem im_Z_copy : Cond.instanceMethod ⟨"LyingBeaconsModel", "copy", "(II)V"⟩ ∈ jm_tbl := jm_in (List.mem_of_getElem? (i := 917) (by decide +kernel)) rfl
theorem se_Z_copy : Cond.selects "LyingBeaconsModel" ⟨"LyingBeaconsModel", "copy", "(II)V"⟩ ⟨"LyingBeaconsModel", "copy", "(II)V"⟩ ∈ jm_tbl := jm_in (List.mem_of_getElem? (i := 33) (by decide +kernel)) rfl
theorem l0_Law__Z_lay (L : Nat) (xs : Nat → Int32) : jm_l0 (mY_Law L xs) mY_Z_lay := ⟨⟨Nat.le_of_ble_eq_true rfl, Nat.le_of_ble_eq_true rfl⟩, rfl, rfl⟩
theorem ml_Law_32 : Cond.methodLink "LyingBeaconsLaw" 32 ⟨"LyingBeaconsModel", "lay", "()I"⟩ ∈ jm_tbl := jm_in (List.mem_of_getElem? (i := 911) (by decide +kernel)) rfl
theorem im_Z_lay : Cond.instanceMethod ⟨"LyingBeaconsModel", "lay", "()I"⟩ ∈ jm_tbl := jm_in (List.mem_of_getElem? (i := 912) (by decide +kernel)) rfl
theorem se_Z_lay : Cond.selects "LyingBeaconsModel" ⟨"LyingBeaconsModel", "lay", "()I"⟩ ⟨"LyingBeaconsModel", "lay", "()I"⟩ ∈ jm_tbl := jm_in (List.mem_of_getElem? (i := 913) (by decide +kernel)) rfl
theorem ml_Law_29 : Cond.methodLink "LyingBeaconsLaw" 29 ⟨"LyingBeacons", "lay", "()I"⟩ ∈ jm_tbl := jm_in (List.mem_of_getElem? (i := 420) (by decide +kernel)) rfl
theorem im_X_lay : Cond.instanceMethod ⟨"LyingBeacons", "lay", "()I"⟩ ∈ jm_tbl := jm_in (List.mem_of_getElem? (i := 421) (by decide +kernel)) rfl
theorem se_X_lay : Cond.selects "LyingBeacons" ⟨"LyingBeacons", "lay", "()I"⟩ ⟨"LyingBeacons", "lay", "()I"⟩ ∈ jm_tbl := jm_in (List.mem_of_getElem? (i := 422) (by decide +kernel)) rfl
def mY_X_hill : jm_Y := (⟨"LyingBeacons", "hill", "(II)I"⟩, prog_1_method_6_code, 3, some .int, { frames := 1, cells := 0, slots := 0, locals := 21 }, none)
theorem cw_X_hill : Cond.code (jm_nm mY_X_hill) (jm_cd mY_X_hill) (jm_ml mY_X_hill) (jm_rt mY_X_hill) ∈ jm_tbl := jm_in (List.mem_of_getElem? (i := 431) (by decide +kernel)) rfl
theorem ok_X_hill : jm_ok mY_X_hill 2 := ⟨by decide, rfl, cw_X_hill, ini_X, by decide +kernel⟩
theorem l0_X_hill__Ne_isHill : jm_l0 mY_X_hill mY_Ne_isHill := ⟨⟨Nat.le_of_ble_eq_true rfl, Nat.le_of_ble_eq_true rfl⟩, rfl, rfl⟩
theorem fo_X_97 : jm_fo "LyingBeacons" 97 2 1 RX3 TX3 12 := ⟨inY3, rfl, by decide, jm_in (List.mem_of_getElem? (i := 130) (by decide +kernel)) rfl⟩
theorem fo_X_101 : jm_fo "LyingBeacons" 101 2 2 RX3 TX3 12 := ⟨inY3, rfl, by decide, jm_in (List.mem_of_getElem? (i := 135) (by decide +kernel)) rfl⟩
theorem fo_X_104 : jm_fo "LyingBeacons" 104 2 3 RX3 TX3 12 := ⟨inY3, rfl, by decide, jm_in (List.mem_of_getElem? (i := 141) (by decide +kernel)) rfl⟩
theorem fo_X_107 : jm_fo "LyingBeacons" 107 2 4 RX3 TX3 12 := ⟨inY3, rfl, by decide, jm_in (List.mem_of_getElem? (i := 147) (by decide +kernel)) rfl⟩
theorem fo_X_110 : jm_fo "LyingBeacons" 110 2 5 RX3 TX3 12 := ⟨inY3, rfl, by decide, jm_in (List.mem_of_getElem? (i := 152) (by decide +kernel)) rfl⟩
theorem ml_X_93 : Cond.methodLink "LyingBeacons" 93 ⟨"LyingBeacons$Net", "isHill", "(I)Z"⟩ ∈ jm_tbl := jm_in (List.mem_of_getElem? (i := 432) (by decide +kernel)) rfl
theorem l0_Law__X_hill (L : Nat) (xs : Nat → Int32) : jm_l0 (mY_Law L xs) mY_X_hill := ⟨⟨Nat.le_of_ble_eq_true rfl, Nat.le_of_ble_eq_true rfl⟩, rfl, rfl⟩
def mY_Z_hill : jm_Y := (⟨"LyingBeaconsModel", "hill", "(II)I"⟩, prog_11_method_20_code, 3, some .int, { frames := 2, cells := 0, slots := 0, locals := 46 }, none)
theorem cw_Z_hill : Cond.code (jm_nm mY_Z_hill) (jm_cd mY_Z_hill) (jm_ml mY_Z_hill) (jm_rt mY_Z_hill) ∈ jm_tbl := jm_in (List.mem_of_getElem? (i := 922) (by decide +kernel)) rfl
theorem ok_Z_hill : jm_ok mY_Z_hill 2 := ⟨by decide, rfl, cw_Z_hill, ini_Z, by decide +kernel⟩
def mY_Z_isHill : jm_Y := (⟨"LyingBeaconsModel", "isHill", "(I)Z"⟩, prog_11_method_19_code, 2, some .boolean, { frames := 1, cells := 0, slots := 0, locals := 25 }, none)
theorem cw_Z_isHill : Cond.code (jm_nm mY_Z_isHill) (jm_cd mY_Z_isHill) (jm_ml mY_Z_isHill) (jm_rt mY_Z_isHill) ∈ jm_tbl := jm_in (List.mem_of_getElem? (i := 926) (by decide +kernel)) rfl
theorem ok_Z_isHill : jm_ok mY_Z_isHill 1 := ⟨by decide, rfl, cw_Z_isHill, ini_Z, by decide +kernel⟩
theorem l0_Z_isHill__Z_in : jm_l0 mY_Z_isHill mY_Z_in := ⟨⟨Nat.le_of_ble_eq_true rfl, Nat.le_of_ble_eq_true rfl⟩, rfl, rfl⟩
theorem l0_Z_hill__Z_isHill : jm_l0 mY_Z_hill mY_Z_isHill := ⟨⟨Nat.le_of_ble_eq_true rfl, Nat.le_of_ble_eq_true rfl⟩, rfl, rfl⟩
theorem kl_Z_141 : Cond.constantLong "LyingBeaconsModel" 141 (4 : Int64) ∈ jm_tbl := jm_in (List.mem_of_getElem? (i := 927) (by decide +kernel)) rfl
theorem l0_Z_hill__Z_in : jm_l0 mY_Z_hill mY_Z_in := ⟨⟨Nat.le_of_ble_eq_true rfl, Nat.le_of_ble_eq_true rfl⟩, rfl, rfl⟩
theorem ml_Z_138 : Cond.methodLink "LyingBeaconsModel" 138 ⟨"LyingBeaconsModel", "isHill", "(I)Z"⟩ ∈ jm_tbl := jm_in (List.mem_of_getElem? (i := 923) (by decide +kernel)) rfl
theorem im_Z_isHill : Cond.instanceMethod ⟨"LyingBeaconsModel", "isHill", "(I)Z"⟩ ∈ jm_tbl := jm_in (List.mem_of_getElem? (i := 925) (by decide +kernel)) rfl
theorem se_Z_isHill : Cond.selects "LyingBeaconsModel" ⟨"LyingBeaconsModel", "isHill", "(I)Z"⟩ ⟨"LyingBeaconsModel", "isHill", "(I)Z"⟩ ∈ jm_tbl := jm_in (List.mem_of_getElem? (i := 34) (by decide +kernel)) rfl
theorem l0_Law__Z_hill (L : Nat) (xs : Nat → Int32) : jm_l0 (mY_Law L xs) mY_Z_hill := ⟨⟨Nat.le_of_ble_eq_true rfl, Nat.le_of_ble_eq_true rfl⟩, rfl, rfl⟩
theorem ml_Law_37 : Cond.methodLink "LyingBeaconsLaw" 37 ⟨"LyingBeaconsModel", "hill", "(II)I"⟩ ∈ jm_tbl := jm_in (List.mem_of_getElem? (i := 919) (by decide +kernel)) rfl
theorem im_Z_hill : Cond.instanceMethod ⟨"LyingBeaconsModel", "hill", "(II)I"⟩ ∈ jm_tbl := jm_in (List.mem_of_getElem? (i := 920) (by decide +kernel)) rfl
theorem se_Z_hill : Cond.selects "LyingBeaconsModel" ⟨"LyingBeaconsModel", "hill", "(II)I"⟩ ⟨"LyingBeaconsModel", "hill", "(II)I"⟩ ∈ jm_tbl := jm_in (List.mem_of_getElem? (i := 921) (by decide +kernel)) rfl
theorem ml_Law_33 : Cond.methodLink "LyingBeaconsLaw" 33 ⟨"LyingBeacons", "hill", "(II)I"⟩ ∈ jm_tbl := jm_in (List.mem_of_getElem? (i := 428) (by decide +kernel)) rfl
theorem im_X_hill : Cond.instanceMethod ⟨"LyingBeacons", "hill", "(II)I"⟩ ∈ jm_tbl := jm_in (List.mem_of_getElem? (i := 429) (by decide +kernel)) rfl
theorem se_X_hill : Cond.selects "LyingBeacons" ⟨"LyingBeacons", "hill", "(II)I"⟩ ⟨"LyingBeacons", "hill", "(II)I"⟩ ∈ jm_tbl := jm_in (List.mem_of_getElem? (i := 430) (by decide +kernel)) rfl
def mY_X_ship : jm_Y := (⟨"LyingBeacons", "ship", "(III)I"⟩, prog_1_method_7_code, 4, some .int, { frames := 1, cells := 0, slots := 0, locals := 23 }, none)
theorem cw_X_ship : Cond.code (jm_nm mY_X_ship) (jm_cd mY_X_ship) (jm_ml mY_X_ship) (jm_rt mY_X_ship) ∈ jm_tbl := jm_in (List.mem_of_getElem? (i := 436) (by decide +kernel)) rfl
theorem ok_X_ship : jm_ok mY_X_ship 3 := ⟨by decide, rfl, cw_X_ship, ini_X, by decide +kernel⟩
theorem l0_X_ship__Ne_ofKind : jm_l0 mY_X_ship mY_Ne_ofKind := ⟨⟨Nat.le_of_ble_eq_true rfl, Nat.le_of_ble_eq_true rfl⟩, rfl, rfl⟩
theorem l0_X_ship__X_isMinute : jm_l0 mY_X_ship mY_X_isMinute := ⟨⟨Nat.le_of_ble_eq_true rfl, Nat.le_of_ble_eq_true rfl⟩, rfl, rfl⟩
theorem fo_X_120 : jm_fo "LyingBeacons" 120 2 10 RX3 TX3 12 := ⟨inY3, rfl, by decide, jm_in (List.mem_of_getElem? (i := 167) (by decide +kernel)) rfl⟩
theorem fp_X_120 : jm_fp "LyingBeacons" 120 2 10 RX3 TX3 12 false .int := ⟨fo_X_120, ⟨tyX3, tyX3_ok⟩, nmX3, rfl, by decide +kernel, fun h => by first | rfl | cases h⟩
theorem l0_X_ship__X_minutesFrom : jm_l0 mY_X_ship mY_X_minutesFrom := ⟨⟨Nat.le_of_ble_eq_true rfl, Nat.le_of_ble_eq_true rfl⟩, rfl, rfl⟩
theorem fo_X_127 : jm_fo "LyingBeacons" 127 2 11 RX3 TX3 12 := ⟨inY3, rfl, by decide, jm_in (List.mem_of_getElem? (i := 170) (by decide +kernel)) rfl⟩
theorem fp_X_127 : jm_fp "LyingBeacons" 127 2 11 RX3 TX3 12 false .long := ⟨fo_X_127, ⟨tyX3, tyX3_ok⟩, nmX3, rfl, by decide +kernel, fun h => by first | rfl | cases h⟩
theorem ml_X_123 : Cond.methodLink "LyingBeacons" 123 ⟨"LyingBeacons", "minutesFrom", "(II)J"⟩ ∈ jm_tbl := jm_in (List.mem_of_getElem? (i := 439) (by decide +kernel)) rfl
theorem ml_X_117 : Cond.methodLink "LyingBeacons" 117 ⟨"LyingBeacons", "isMinute", "(I)Z"⟩ ∈ jm_tbl := jm_in (List.mem_of_getElem? (i := 438) (by decide +kernel)) rfl
theorem ml_X_113 : Cond.methodLink "LyingBeacons" 113 ⟨"LyingBeacons$Net", "ofKind", "(I)I"⟩ ∈ jm_tbl := jm_in (List.mem_of_getElem? (i := 437) (by decide +kernel)) rfl
theorem l0_Law__X_ship (L : Nat) (xs : Nat → Int32) : jm_l0 (mY_Law L xs) mY_X_ship := ⟨⟨Nat.le_of_ble_eq_true rfl, Nat.le_of_ble_eq_true rfl⟩, rfl, rfl⟩
def mY_Z_ship : jm_Y := (⟨"LyingBeaconsModel", "ship", "(III)I"⟩, prog_11_method_23_code, 4, some .int, { frames := 1, cells := 0, slots := 0, locals := 25 }, none)
theorem cw_Z_ship : Cond.code (jm_nm mY_Z_ship) (jm_cd mY_Z_ship) (jm_ml mY_Z_ship) (jm_rt mY_Z_ship) ∈ jm_tbl := jm_in (List.mem_of_getElem? (i := 931) (by decide +kernel)) rfl
theorem ok_Z_ship : jm_ok mY_Z_ship 3 := ⟨by decide, rfl, cw_Z_ship, ini_Z, by decide +kernel⟩
def mY_Z_ofKind : jm_Y := (⟨"LyingBeaconsModel", "ofKind", "(I)I"⟩, prog_11_method_21_code, 4, some .int, { frames := 0, cells := 0, slots := 0, locals := 0 }, none)
theorem cw_Z_ofKind : Cond.code (jm_nm mY_Z_ofKind) (jm_cd mY_Z_ofKind) (jm_ml mY_Z_ofKind) (jm_rt mY_Z_ofKind) ∈ jm_tbl := jm_in (List.mem_of_getElem? (i := 935) (by decide +kernel)) rfl
theorem ok_Z_ofKind : jm_ok mY_Z_ofKind 1 := ⟨by decide, rfl, cw_Z_ofKind, ini_Z, by decide +kernel⟩
theorem l0_Z_ship__Z_ofKind : jm_l0 mY_Z_ship mY_Z_ofKind := ⟨⟨Nat.le_of_ble_eq_true rfl, Nat.le_of_ble_eq_true rfl⟩, rfl, rfl⟩
theorem kl_Z_147 : Cond.constantLong "LyingBeaconsModel" 147 (59 : Int64) ∈ jm_tbl := jm_in (List.mem_of_getElem? (i := 936) (by decide +kernel)) rfl
theorem l0_Z_ship__Z_in : jm_l0 mY_Z_ship mY_Z_in := ⟨⟨Nat.le_of_ble_eq_true rfl, Nat.le_of_ble_eq_true rfl⟩, rfl, rfl⟩
theorem ml_Z_143 : Cond.methodLink "LyingBeaconsModel" 143 ⟨"LyingBeaconsModel", "ofKind", "(I)I"⟩ ∈ jm_tbl := jm_in (List.mem_of_getElem? (i := 932) (by decide +kernel)) rfl
theorem im_Z_ofKind : Cond.instanceMethod ⟨"LyingBeaconsModel", "ofKind", "(I)I"⟩ ∈ jm_tbl := jm_in (List.mem_of_getElem? (i := 934) (by decide +kernel)) rfl
theorem se_Z_ofKind : Cond.selects "LyingBeaconsModel" ⟨"LyingBeaconsModel", "ofKind", "(I)I"⟩ ⟨"LyingBeaconsModel", "ofKind", "(I)I"⟩ ∈ jm_tbl := jm_in (List.mem_of_getElem? (i := 35) (by decide +kernel)) rfl
theorem l0_Law__Z_ship (L : Nat) (xs : Nat → Int32) : jm_l0 (mY_Law L xs) mY_Z_ship := ⟨⟨Nat.le_of_ble_eq_true rfl, Nat.le_of_ble_eq_true rfl⟩, rfl, rfl⟩
theorem ml_Law_42 : Cond.methodLink "LyingBeaconsLaw" 42 ⟨"LyingBeaconsModel", "ship", "(III)I"⟩ ∈ jm_tbl := jm_in (List.mem_of_getElem? (i := 928) (by decide +kernel)) rfl
theorem im_Z_ship : Cond.instanceMethod ⟨"LyingBeaconsModel", "ship", "(III)I"⟩ ∈ jm_tbl := jm_in (List.mem_of_getElem? (i := 929) (by decide +kernel)) rfl
theorem se_Z_ship : Cond.selects "LyingBeaconsModel" ⟨"LyingBeaconsModel", "ship", "(III)I"⟩ ⟨"LyingBeaconsModel", "ship", "(III)I"⟩ ∈ jm_tbl := jm_in (List.mem_of_getElem? (i := 930) (by decide +kernel)) rfl
theorem ml_Law_38 : Cond.methodLink "LyingBeaconsLaw" 38 ⟨"LyingBeacons", "ship", "(III)I"⟩ ∈ jm_tbl := jm_in (List.mem_of_getElem? (i := 433) (by decide +kernel)) rfl
theorem im_X_ship : Cond.instanceMethod ⟨"LyingBeacons", "ship", "(III)I"⟩ ∈ jm_tbl := jm_in (List.mem_of_getElem? (i := 434) (by decide +kernel)) rfl
theorem se_X_ship : Cond.selects "LyingBeacons" ⟨"LyingBeacons", "ship", "(III)I"⟩ ⟨"LyingBeacons", "ship", "(III)I"⟩ ∈ jm_tbl := jm_in (List.mem_of_getElem? (i := 435) (by decide +kernel)) rfl
def mY_X_burns : jm_Y := (⟨"LyingBeacons", "burns", "(II)I"⟩, prog_1_method_8_code, 3, some .int, { frames := 6, cells := 0, slots := 0, locals := 141 }, none)
theorem cw_X_burns : Cond.code (jm_nm mY_X_burns) (jm_cd mY_X_burns) (jm_ml mY_X_burns) (jm_rt mY_X_burns) ∈ jm_tbl := jm_in (List.mem_of_getElem? (i := 443) (by decide +kernel)) rfl
theorem ok_X_burns : jm_ok mY_X_burns 2 := ⟨by decide, rfl, cw_X_burns, ini_X, by decide +kernel⟩
theorem l0_X_burns__Ne_isHill : jm_l0 mY_X_burns mY_Ne_isHill := ⟨⟨Nat.le_of_ble_eq_true rfl, Nat.le_of_ble_eq_true rfl⟩, rfl, rfl⟩
theorem l0_X_burns__X_isMinute : jm_l0 mY_X_burns mY_X_isMinute := ⟨⟨Nat.le_of_ble_eq_true rfl, Nat.le_of_ble_eq_true rfl⟩, rfl, rfl⟩
def mY_X_playNight : jm_Y := (⟨"LyingBeacons", "playNight", "()V"⟩, prog_1_method_30_code, 1, none, { frames := 5, cells := 0, slots := 0, locals := 121 }, none)
theorem cw_X_playNight : Cond.code (jm_nm mY_X_playNight) (jm_cd mY_X_playNight) (jm_ml mY_X_playNight) (jm_rt mY_X_playNight) ∈ jm_tbl := jm_in (List.mem_of_getElem? (i := 447) (by decide +kernel)) rfl
theorem ok_X_playNight : jm_ok mY_X_playNight 0 := ⟨by decide, rfl, cw_X_playNight, ini_X, by decide +kernel⟩
theorem mr_154_1_8 : mr_154 1 8 = some 45 := by decide
def mY_Ni_play : jm_Y := (⟨"LyingBeacons$Night", "play", "(LLyingBeacons$Net;)V"⟩, prog_6_method_3_code, 3, none, { frames := 4, cells := 0, slots := 0, locals := 99 }, none)
theorem cw_Ni_play : Cond.code (jm_nm mY_Ni_play) (jm_cd mY_Ni_play) (jm_ml mY_Ni_play) (jm_rt mY_Ni_play) ∈ jm_tbl := jm_in (List.mem_of_getElem? (i := 451) (by decide +kernel)) rfl
theorem ok_Ni_play : jm_ok mY_Ni_play 1 := ⟨by decide, rfl, cw_Ni_play, ini_Ni, by decide +kernel⟩
def mY_Ni_playMinute : jm_Y := (⟨"LyingBeacons$Night", "playMinute", "(LLyingBeacons$Net;I)V"⟩, prog_6_method_4_code, 4, none, { frames := 3, cells := 0, slots := 0, locals := 76 }, none)
theorem cw_Ni_playMinute : Cond.code (jm_nm mY_Ni_playMinute) (jm_cd mY_Ni_playMinute) (jm_ml mY_Ni_playMinute) (jm_rt mY_Ni_playMinute) ∈ jm_tbl := jm_in (List.mem_of_getElem? (i := 455) (by decide +kernel)) rfl
theorem ok_Ni_playMinute : jm_ok mY_Ni_playMinute 2 := ⟨by decide, rfl, cw_Ni_playMinute, ini_Ni, by decide +kernel⟩
theorem le_45_78 : 45 ≤ 78 := by decide
theorem mr_154_45_0 : mr_154 45 0 = some 46 := by decide
def mY_Ni_isFired : jm_Y := (⟨"LyingBeacons$Night", "isFired", "(LLyingBeacons$Net;II)Z"⟩, prog_6_method_5_code, 6, some .boolean, { frames := 2, cells := 0, slots := 0, locals := 51 }, none)
theorem cw_Ni_isFired : Cond.code (jm_nm mY_Ni_isFired) (jm_cd mY_Ni_isFired) (jm_ml mY_Ni_isFired) (jm_rt mY_Ni_isFired) ∈ jm_tbl := jm_in (List.mem_of_getElem? (i := 459) (by decide +kernel)) rfl
theorem ok_Ni_isFired : jm_ok mY_Ni_isFired 3 := ⟨by decide, rfl, cw_Ni_isFired, ini_Ni, by decide +kernel⟩
theorem fo_Ni_44 : jm_fo "LyingBeacons$Night" 44 2 8 RX3 TX3 12 := ⟨inY3, rfl, by decide, jm_in (List.mem_of_getElem? (i := 161) (by decide +kernel)) rfl⟩
theorem fo_Ni_47 : jm_fo "LyingBeacons$Night" 47 2 1 RX3 TX3 12 := ⟨inY3, rfl, by decide, jm_in (List.mem_of_getElem? (i := 129) (by decide +kernel)) rfl⟩
theorem fo_Ni_50 : jm_fo "LyingBeacons$Night" 50 2 7 RX3 TX3 12 := ⟨inY3, rfl, by decide, jm_in (List.mem_of_getElem? (i := 158) (by decide +kernel)) rfl⟩
def mY_Ni_isLit : jm_Y := (⟨"LyingBeacons$Night", "isLit", "(II)Z"⟩, prog_6_method_2_code, 3, some .boolean, { frames := 1, cells := 0, slots := 0, locals := 20 }, none)
theorem cw_Ni_isLit : Cond.code (jm_nm mY_Ni_isLit) (jm_cd mY_Ni_isLit) (jm_ml mY_Ni_isLit) (jm_rt mY_Ni_isLit) ∈ jm_tbl := jm_in (List.mem_of_getElem? (i := 463) (by decide +kernel)) rfl
theorem ok_Ni_isLit : jm_ok mY_Ni_isLit 2 := ⟨by decide, rfl, cw_Ni_isLit, ini_Ni, by decide +kernel⟩
theorem l0_Ni_isLit__X_isMinute : jm_l0 mY_Ni_isLit mY_X_isMinute := ⟨⟨Nat.le_of_ble_eq_true rfl, Nat.le_of_ble_eq_true rfl⟩, rfl, rfl⟩
theorem mr_154_45_2 : mr_154 45 2 = some 47 := by decide
theorem le_47_78 : 47 ≤ 78 := by decide
theorem nl_Ni_23 : (("LyingBeacons$Night", 23, ⟨"LyingBeacons", "isMinute", "(I)Z"⟩, "LyingBeacons") : String × Nat × MethodName × String) ∈ jm_nest := by decide +kernel
theorem l0_Ni_isFired__Ni_isLit : jm_l0 mY_Ni_isFired mY_Ni_isLit := ⟨⟨Nat.le_of_ble_eq_true rfl, Nat.le_of_ble_eq_true rfl⟩, rfl, rfl⟩
def mY_Ni_sawShip : jm_Y := (⟨"LyingBeacons$Night", "sawShip", "(LLyingBeacons$Net;II)Z"⟩, prog_6_method_6_code, 3, some .boolean, { frames := 0, cells := 0, slots := 0, locals := 0 }, none)
theorem cw_Ni_sawShip : Cond.code (jm_nm mY_Ni_sawShip) (jm_cd mY_Ni_sawShip) (jm_ml mY_Ni_sawShip) (jm_rt mY_Ni_sawShip) ∈ jm_tbl := jm_in (List.mem_of_getElem? (i := 467) (by decide +kernel)) rfl
theorem ok_Ni_sawShip : jm_ok mY_Ni_sawShip 3 := ⟨by decide, rfl, cw_Ni_sawShip, ini_Ni, by decide +kernel⟩
theorem fo_Ni_63 : jm_fo "LyingBeacons$Night" 63 2 10 RX3 TX3 12 := ⟨inY3, rfl, by decide, jm_in (List.mem_of_getElem? (i := 166) (by decide +kernel)) rfl⟩
theorem fo_Ni_66 : jm_fo "LyingBeacons$Night" 66 2 11 RX3 TX3 12 := ⟨inY3, rfl, by decide, jm_in (List.mem_of_getElem? (i := 169) (by decide +kernel)) rfl⟩
theorem l0_Ni_isFired__Ni_sawShip : jm_l0 mY_Ni_isFired mY_Ni_sawShip := ⟨⟨Nat.le_of_ble_eq_true rfl, Nat.le_of_ble_eq_true rfl⟩, rfl, rfl⟩
def mY_Ni_ruleHeld : jm_Y := (⟨"LyingBeacons$Night", "ruleHeld", "(LLyingBeacons$Net;II)Z"⟩, prog_6_method_7_code, 11, some .boolean, { frames := 1, cells := 0, slots := 0, locals := 21 }, none)
theorem cw_Ni_ruleHeld : Cond.code (jm_nm mY_Ni_ruleHeld) (jm_cd mY_Ni_ruleHeld) (jm_ml mY_Ni_ruleHeld) (jm_rt mY_Ni_ruleHeld) ∈ jm_tbl := jm_in (List.mem_of_getElem? (i := 471) (by decide +kernel)) rfl
theorem ok_Ni_ruleHeld : jm_ok mY_Ni_ruleHeld 3 := ⟨by decide, rfl, cw_Ni_ruleHeld, ini_Ni, by decide +kernel⟩
theorem fo_Ni_70 : jm_fo "LyingBeacons$Night" 70 2 4 RX3 TX3 12 := ⟨inY3, rfl, by decide, jm_in (List.mem_of_getElem? (i := 148) (by decide +kernel)) rfl⟩
theorem l0_Ni_ruleHeld__X_minutesFrom : jm_l0 mY_Ni_ruleHeld mY_X_minutesFrom := ⟨⟨Nat.le_of_ble_eq_true rfl, Nat.le_of_ble_eq_true rfl⟩, rfl, rfl⟩
theorem fo_Ni_85 : jm_fo "LyingBeacons$Night" 85 2 3 RX3 TX3 12 := ⟨inY3, rfl, by decide, jm_in (List.mem_of_getElem? (i := 142) (by decide +kernel)) rfl⟩
theorem fo_Ni_77 : jm_fo "LyingBeacons$Night" 77 2 2 RX3 TX3 12 := ⟨inY3, rfl, by decide, jm_in (List.mem_of_getElem? (i := 136) (by decide +kernel)) rfl⟩
theorem fo_Ni_80 : jm_fo "LyingBeacons$Night" 80 2 9 RX3 TX3 12 := ⟨inY3, rfl, by decide, jm_in (List.mem_of_getElem? (i := 164) (by decide +kernel)) rfl⟩
theorem kl_Ni_83 : Cond.constantLong "LyingBeacons$Night" 83 (-1 : Int64) ∈ jm_tbl := jm_in (List.mem_of_getElem? (i := 473) (by decide +kernel)) rfl
theorem nl_Ni_73 : (("LyingBeacons$Night", 73, ⟨"LyingBeacons", "minutesFrom", "(II)J"⟩, "LyingBeacons") : String × Nat × MethodName × String) ∈ jm_nest := by decide +kernel
theorem l0_Ni_isFired__Ni_ruleHeld : jm_l0 mY_Ni_isFired mY_Ni_ruleHeld := ⟨⟨Nat.le_of_ble_eq_true rfl, Nat.le_of_ble_eq_true rfl⟩, rfl, rfl⟩
theorem ml_Ni_60 : Cond.methodLink "LyingBeacons$Night" 60 ⟨"LyingBeacons$Night", "ruleHeld", "(LLyingBeacons$Net;II)Z"⟩ ∈ jm_tbl := jm_in (List.mem_of_getElem? (i := 468) (by decide +kernel)) rfl
theorem im_Ni_ruleHeld : Cond.instanceMethod ⟨"LyingBeacons$Night", "ruleHeld", "(LLyingBeacons$Net;II)Z"⟩ ∈ jm_tbl := jm_in (List.mem_of_getElem? (i := 470) (by decide +kernel)) rfl
theorem se_Ni_ruleHeld : Cond.selects "LyingBeacons$Night" ⟨"LyingBeacons$Night", "ruleHeld", "(LLyingBeacons$Net;II)Z"⟩ ⟨"LyingBeacons$Night", "ruleHeld", "(LLyingBeacons$Net;II)Z"⟩ ∈ jm_tbl := jm_in (List.mem_of_getElem? (i := 15) (by decide +kernel)) rfl
theorem ml_Ni_57 : Cond.methodLink "LyingBeacons$Night" 57 ⟨"LyingBeacons$Night", "sawShip", "(LLyingBeacons$Net;II)Z"⟩ ∈ jm_tbl := jm_in (List.mem_of_getElem? (i := 465) (by decide +kernel)) rfl
theorem sm_Ni_sawShip : Cond.static ⟨"LyingBeacons$Night", "sawShip", "(LLyingBeacons$Net;II)Z"⟩ ∈ jm_tbl := jm_in (List.mem_of_getElem? (i := 466) (by decide +kernel)) rfl
theorem ml_Ni_53 : Cond.methodLink "LyingBeacons$Night" 53 ⟨"LyingBeacons$Night", "isLit", "(II)Z"⟩ ∈ jm_tbl := jm_in (List.mem_of_getElem? (i := 460) (by decide +kernel)) rfl
theorem im_Ni_isLit : Cond.instanceMethod ⟨"LyingBeacons$Night", "isLit", "(II)Z"⟩ ∈ jm_tbl := jm_in (List.mem_of_getElem? (i := 461) (by decide +kernel)) rfl
theorem se_Ni_isLit : Cond.selects "LyingBeacons$Night" ⟨"LyingBeacons$Night", "isLit", "(II)Z"⟩ ⟨"LyingBeacons$Night", "isLit", "(II)Z"⟩ ∈ jm_tbl := jm_in (List.mem_of_getElem? (i := 462) (by decide +kernel)) rfl
theorem l0_Ni_playMinute__Ni_isFired : jm_l0 mY_Ni_playMinute mY_Ni_isFired := ⟨⟨Nat.le_of_ble_eq_true rfl, Nat.le_of_ble_eq_true rfl⟩, rfl, rfl⟩
theorem le_46_78 : 46 ≤ 78 := by decide
theorem ml_Ni_40 : Cond.methodLink "LyingBeacons$Night" 40 ⟨"LyingBeacons$Night", "isFired", "(LLyingBeacons$Net;II)Z"⟩ ∈ jm_tbl := jm_in (List.mem_of_getElem? (i := 456) (by decide +kernel)) rfl
theorem im_Ni_isFired : Cond.instanceMethod ⟨"LyingBeacons$Night", "isFired", "(LLyingBeacons$Net;II)Z"⟩ ∈ jm_tbl := jm_in (List.mem_of_getElem? (i := 458) (by decide +kernel)) rfl
theorem se_Ni_isFired : Cond.selects "LyingBeacons$Night" ⟨"LyingBeacons$Night", "isFired", "(LLyingBeacons$Net;II)Z"⟩ ⟨"LyingBeacons$Night", "isFired", "(LLyingBeacons$Net;II)Z"⟩ ∈ jm_tbl := jm_in (List.mem_of_getElem? (i := 14) (by decide +kernel)) rfl
theorem l0_Ni_play__Ni_playMinute : jm_l0 mY_Ni_play mY_Ni_playMinute := ⟨⟨Nat.le_of_ble_eq_true rfl, Nat.le_of_ble_eq_true rfl⟩, rfl, rfl⟩
def mY_Ni_isHeard : jm_Y := (⟨"LyingBeacons$Night", "isHeard", "(LLyingBeacons$Net;I)Z"⟩, prog_6_method_8_code, 4, some .boolean, { frames := 2, cells := 0, slots := 0, locals := 51 }, none)
theorem cw_Ni_isHeard : Cond.code (jm_nm mY_Ni_isHeard) (jm_cd mY_Ni_isHeard) (jm_ml mY_Ni_isHeard) (jm_rt mY_Ni_isHeard) ∈ jm_tbl := jm_in (List.mem_of_getElem? (i := 477) (by decide +kernel)) rfl
theorem ok_Ni_isHeard : jm_ok mY_Ni_isHeard 2 := ⟨by decide, rfl, cw_Ni_isHeard, ini_Ni, by decide +kernel⟩
theorem l0_Ni_isHeard__Ni_ruleHeld : jm_l0 mY_Ni_isHeard mY_Ni_ruleHeld := ⟨⟨Nat.le_of_ble_eq_true rfl, Nat.le_of_ble_eq_true rfl⟩, rfl, rfl⟩
theorem l0_Ni_play__Ni_isHeard : jm_l0 mY_Ni_play mY_Ni_isHeard := ⟨⟨Nat.le_of_ble_eq_true rfl, Nat.le_of_ble_eq_true rfl⟩, rfl, rfl⟩
theorem ml_Ni_36 : Cond.methodLink "LyingBeacons$Night" 36 ⟨"LyingBeacons$Night", "isHeard", "(LLyingBeacons$Net;I)Z"⟩ ∈ jm_tbl := jm_in (List.mem_of_getElem? (i := 474) (by decide +kernel)) rfl
theorem im_Ni_isHeard : Cond.instanceMethod ⟨"LyingBeacons$Night", "isHeard", "(LLyingBeacons$Net;I)Z"⟩ ∈ jm_tbl := jm_in (List.mem_of_getElem? (i := 476) (by decide +kernel)) rfl
theorem se_Ni_isHeard : Cond.selects "LyingBeacons$Night" ⟨"LyingBeacons$Night", "isHeard", "(LLyingBeacons$Net;I)Z"⟩ ⟨"LyingBeacons$Night", "isHeard", "(LLyingBeacons$Net;I)Z"⟩ ∈ jm_tbl := jm_in (List.mem_of_getElem? (i := 16) (by decide +kernel)) rfl
theorem ml_Ni_32 : Cond.methodLink "LyingBeacons$Night" 32 ⟨"LyingBeacons$Night", "playMinute", "(LLyingBeacons$Net;I)V"⟩ ∈ jm_tbl := jm_in (List.mem_of_getElem? (i := 452) (by decide +kernel)) rfl
theorem im_Ni_playMinute : Cond.instanceMethod ⟨"LyingBeacons$Night", "playMinute", "(LLyingBeacons$Net;I)V"⟩ ∈ jm_tbl := jm_in (List.mem_of_getElem? (i := 454) (by decide +kernel)) rfl
theorem se_Ni_playMinute : Cond.selects "LyingBeacons$Night" ⟨"LyingBeacons$Night", "playMinute", "(LLyingBeacons$Net;I)V"⟩ ⟨"LyingBeacons$Night", "playMinute", "(LLyingBeacons$Net;I)V"⟩ ∈ jm_tbl := jm_in (List.mem_of_getElem? (i := 13) (by decide +kernel)) rfl
theorem fo_Ni_27 : jm_fo "LyingBeacons$Night" 27 2 5 RX3 TX3 12 := ⟨inY3, rfl, by decide, jm_in (List.mem_of_getElem? (i := 151) (by decide +kernel)) rfl⟩
theorem l0_X_playNight__Ni_play : jm_l0 mY_X_playNight mY_Ni_play := ⟨⟨Nat.le_of_ble_eq_true rfl, Nat.le_of_ble_eq_true rfl⟩, rfl, rfl⟩
theorem ml_X_264 : Cond.methodLink "LyingBeacons" 264 ⟨"LyingBeacons$Night", "play", "(LLyingBeacons$Net;)V"⟩ ∈ jm_tbl := jm_in (List.mem_of_getElem? (i := 448) (by decide +kernel)) rfl
theorem im_Ni_play : Cond.instanceMethod ⟨"LyingBeacons$Night", "play", "(LLyingBeacons$Net;)V"⟩ ∈ jm_tbl := jm_in (List.mem_of_getElem? (i := 449) (by decide +kernel)) rfl
theorem se_Ni_play : Cond.selects "LyingBeacons$Night" ⟨"LyingBeacons$Night", "play", "(LLyingBeacons$Net;)V"⟩ ⟨"LyingBeacons$Night", "play", "(LLyingBeacons$Net;)V"⟩ ∈ jm_tbl := jm_in (List.mem_of_getElem? (i := 450) (by decide +kernel)) rfl
theorem l0_X_burns__X_playNight : jm_l0 mY_X_burns mY_X_playNight := ⟨⟨Nat.le_of_ble_eq_true rfl, Nat.le_of_ble_eq_true rfl⟩, rfl, rfl⟩
theorem l0_X_burns__Ni_isLit : jm_l0 mY_X_burns mY_Ni_isLit := ⟨⟨Nat.le_of_ble_eq_true rfl, Nat.le_of_ble_eq_true rfl⟩, rfl, rfl⟩
theorem ml_X_134 : Cond.methodLink "LyingBeacons" 134 ⟨"LyingBeacons$Night", "isLit", "(II)Z"⟩ ∈ jm_tbl := jm_in (List.mem_of_getElem? (i := 478) (by decide +kernel)) rfl
theorem ml_X_131 : Cond.methodLink "LyingBeacons" 131 ⟨"LyingBeacons", "playNight", "()V"⟩ ∈ jm_tbl := jm_in (List.mem_of_getElem? (i := 444) (by decide +kernel)) rfl
theorem im_X_playNight : Cond.instanceMethod ⟨"LyingBeacons", "playNight", "()V"⟩ ∈ jm_tbl := jm_in (List.mem_of_getElem? (i := 446) (by decide +kernel)) rfl
theorem se_X_playNight : Cond.selects "LyingBeacons" ⟨"LyingBeacons", "playNight", "()V"⟩ ⟨"LyingBeacons", "playNight", "()V"⟩ ∈ jm_tbl := jm_in (List.mem_of_getElem? (i := 12) (by decide +kernel)) rfl
theorem l0_Law__X_burns (L : Nat) (xs : Nat → Int32) : jm_l0 (mY_Law L xs) mY_X_burns := ⟨⟨Nat.le_of_ble_eq_true rfl, Nat.le_of_ble_eq_true rfl⟩, rfl, rfl⟩
def mY_Z_burns : jm_Y := (⟨"LyingBeaconsModel", "burns", "(II)I"⟩, prog_11_method_30_code, 3, some .int, { frames := 5, cells := 0, slots := 0, locals := 124 }, none)
theorem cw_Z_burns : Cond.code (jm_nm mY_Z_burns) (jm_cd mY_Z_burns) (jm_ml mY_Z_burns) (jm_rt mY_Z_burns) ∈ jm_tbl := jm_in (List.mem_of_getElem? (i := 940) (by decide +kernel)) rfl
theorem ok_Z_burns : jm_ok mY_Z_burns 2 := ⟨by decide, rfl, cw_Z_burns, ini_Z, by decide +kernel⟩
theorem l0_Z_burns__Z_isHill : jm_l0 mY_Z_burns mY_Z_isHill := ⟨⟨Nat.le_of_ble_eq_true rfl, Nat.le_of_ble_eq_true rfl⟩, rfl, rfl⟩
theorem l0_Z_burns__Z_in : jm_l0 mY_Z_burns mY_Z_in := ⟨⟨Nat.le_of_ble_eq_true rfl, Nat.le_of_ble_eq_true rfl⟩, rfl, rfl⟩
def mY_Z_layNight : jm_Y := (⟨"LyingBeaconsModel", "layNight", "()V"⟩, prog_11_method_29_code, 4, none, { frames := 4, cells := 0, slots := 0, locals := 101 }, none)
theorem cw_Z_layNight : Cond.code (jm_nm mY_Z_layNight) (jm_cd mY_Z_layNight) (jm_ml mY_Z_layNight) (jm_rt mY_Z_layNight) ∈ jm_tbl := jm_in (List.mem_of_getElem? (i := 944) (by decide +kernel)) rfl
theorem ok_Z_layNight : jm_ok mY_Z_layNight 0 := ⟨by decide, rfl, cw_Z_layNight, ini_Z, by decide +kernel⟩
theorem mr_154_59_20 : mr_154 59 20 = some 74 := by decide
theorem mr_154_59_21 : mr_154 59 21 = some 75 := by decide
theorem l0_Z_layNight__Z_has : jm_l0 mY_Z_layNight mY_Z_has := ⟨⟨Nat.le_of_ble_eq_true rfl, Nat.le_of_ble_eq_true rfl⟩, rfl, rfl⟩
theorem le_75_78 : 75 ≤ 78 := by decide
theorem le_74_78 : 74 ≤ 78 := by decide
def mY_Z_kindles : jm_Y := (⟨"LyingBeaconsModel", "kindles", "(II)Z"⟩, prog_11_method_28_code, 4, some .boolean, { frames := 3, cells := 0, slots := 0, locals := 78 }, none)
theorem cw_Z_kindles : Cond.code (jm_nm mY_Z_kindles) (jm_cd mY_Z_kindles) (jm_ml mY_Z_kindles) (jm_rt mY_Z_kindles) ∈ jm_tbl := jm_in (List.mem_of_getElem? (i := 948) (by decide +kernel)) rfl
theorem ok_Z_kindles : jm_ok mY_Z_kindles 2 := ⟨by decide, rfl, cw_Z_kindles, ini_Z, by decide +kernel⟩
def mY_Z_isLiar : jm_Y := (⟨"LyingBeaconsModel", "isLiar", "(I)Z"⟩, prog_11_method_26_code, 4, some .boolean, { frames := 0, cells := 0, slots := 0, locals := 0 }, none)
theorem cw_Z_isLiar : Cond.code (jm_nm mY_Z_isLiar) (jm_cd mY_Z_isLiar) (jm_ml mY_Z_isLiar) (jm_rt mY_Z_isLiar) ∈ jm_tbl := jm_in (List.mem_of_getElem? (i := 952) (by decide +kernel)) rfl
theorem ok_Z_isLiar : jm_ok mY_Z_isLiar 1 := ⟨by decide, rfl, cw_Z_isLiar, ini_Z, by decide +kernel⟩
theorem l0_Z_kindles__Z_isLiar : jm_l0 mY_Z_kindles mY_Z_isLiar := ⟨⟨Nat.le_of_ble_eq_true rfl, Nat.le_of_ble_eq_true rfl⟩, rfl, rfl⟩
theorem cb_115 : (Int8.ofInt 115).toInt32 = (115 : Int32) := by decide
def mY_Z_isTold : jm_Y := (⟨"LyingBeaconsModel", "isTold", "(III)Z"⟩, prog_11_method_24_code, 6, some .boolean, { frames := 1, cells := 0, slots := 0, locals := 25 }, none)
theorem cw_Z_isTold : Cond.code (jm_nm mY_Z_isTold) (jm_cd mY_Z_isTold) (jm_ml mY_Z_isTold) (jm_rt mY_Z_isTold) ∈ jm_tbl := jm_in (List.mem_of_getElem? (i := 956) (by decide +kernel)) rfl
theorem ok_Z_isTold : jm_ok mY_Z_isTold 3 := ⟨by decide, rfl, cw_Z_isTold, ini_Z, by decide +kernel⟩
theorem l0_Z_isTold__Z_in : jm_l0 mY_Z_isTold mY_Z_in := ⟨⟨Nat.le_of_ble_eq_true rfl, Nat.le_of_ble_eq_true rfl⟩, rfl, rfl⟩
theorem l0_Z_kindles__Z_isTold : jm_l0 mY_Z_kindles mY_Z_isTold := ⟨⟨Nat.le_of_ble_eq_true rfl, Nat.le_of_ble_eq_true rfl⟩, rfl, rfl⟩
theorem l0_Z_kindles__Z_has : jm_l0 mY_Z_kindles mY_Z_has := ⟨⟨Nat.le_of_ble_eq_true rfl, Nat.le_of_ble_eq_true rfl⟩, rfl, rfl⟩
def mY_Z_held : jm_Y := (⟨"LyingBeaconsModel", "held", "(II)Z"⟩, prog_11_method_27_code, 7, some .boolean, { frames := 2, cells := 0, slots := 0, locals := 52 }, none)
theorem cw_Z_held : Cond.code (jm_nm mY_Z_held) (jm_cd mY_Z_held) (jm_ml mY_Z_held) (jm_rt mY_Z_held) ∈ jm_tbl := jm_in (List.mem_of_getElem? (i := 960) (by decide +kernel)) rfl
theorem ok_Z_held : jm_ok mY_Z_held 2 := ⟨by decide, rfl, cw_Z_held, ini_Z, by decide +kernel⟩
theorem l0_Z_held__Z_has : jm_l0 mY_Z_held mY_Z_has := ⟨⟨Nat.le_of_ble_eq_true rfl, Nat.le_of_ble_eq_true rfl⟩, rfl, rfl⟩
def mY_Z_isMist : jm_Y := (⟨"LyingBeaconsModel", "isMist", "(III)Z"⟩, prog_11_method_25_code, 8, some .boolean, { frames := 1, cells := 0, slots := 0, locals := 25 }, none)
theorem cw_Z_isMist : Cond.code (jm_nm mY_Z_isMist) (jm_cd mY_Z_isMist) (jm_ml mY_Z_isMist) (jm_rt mY_Z_isMist) ∈ jm_tbl := jm_in (List.mem_of_getElem? (i := 964) (by decide +kernel)) rfl
theorem ok_Z_isMist : jm_ok mY_Z_isMist 3 := ⟨by decide, rfl, cw_Z_isMist, ini_Z, by decide +kernel⟩
theorem l0_Z_isMist__Z_in : jm_l0 mY_Z_isMist mY_Z_in := ⟨⟨Nat.le_of_ble_eq_true rfl, Nat.le_of_ble_eq_true rfl⟩, rfl, rfl⟩
theorem l0_Z_held__Z_isMist : jm_l0 mY_Z_held mY_Z_isMist := ⟨⟨Nat.le_of_ble_eq_true rfl, Nat.le_of_ble_eq_true rfl⟩, rfl, rfl⟩
theorem ml_Z_149 : Cond.methodLink "LyingBeaconsModel" 149 ⟨"LyingBeaconsModel", "isMist", "(III)Z"⟩ ∈ jm_tbl := jm_in (List.mem_of_getElem? (i := 961) (by decide +kernel)) rfl
theorem im_Z_isMist : Cond.instanceMethod ⟨"LyingBeaconsModel", "isMist", "(III)Z"⟩ ∈ jm_tbl := jm_in (List.mem_of_getElem? (i := 963) (by decide +kernel)) rfl
theorem se_Z_isMist : Cond.selects "LyingBeaconsModel" ⟨"LyingBeaconsModel", "isMist", "(III)Z"⟩ ⟨"LyingBeaconsModel", "isMist", "(III)Z"⟩ ∈ jm_tbl := jm_in (List.mem_of_getElem? (i := 41) (by decide +kernel)) rfl
theorem l0_Z_kindles__Z_held : jm_l0 mY_Z_kindles mY_Z_held := ⟨⟨Nat.le_of_ble_eq_true rfl, Nat.le_of_ble_eq_true rfl⟩, rfl, rfl⟩
theorem ml_Z_159 : Cond.methodLink "LyingBeaconsModel" 159 ⟨"LyingBeaconsModel", "held", "(II)Z"⟩ ∈ jm_tbl := jm_in (List.mem_of_getElem? (i := 957) (by decide +kernel)) rfl
theorem im_Z_held : Cond.instanceMethod ⟨"LyingBeaconsModel", "held", "(II)Z"⟩ ∈ jm_tbl := jm_in (List.mem_of_getElem? (i := 959) (by decide +kernel)) rfl
theorem se_Z_held : Cond.selects "LyingBeaconsModel" ⟨"LyingBeaconsModel", "held", "(II)Z"⟩ ⟨"LyingBeaconsModel", "held", "(II)Z"⟩ ∈ jm_tbl := jm_in (List.mem_of_getElem? (i := 40) (by decide +kernel)) rfl
theorem l0_Z_kindles__Z_in : jm_l0 mY_Z_kindles mY_Z_in := ⟨⟨Nat.le_of_ble_eq_true rfl, Nat.le_of_ble_eq_true rfl⟩, rfl, rfl⟩
theorem ml_Z_156 : Cond.methodLink "LyingBeaconsModel" 156 ⟨"LyingBeaconsModel", "isTold", "(III)Z"⟩ ∈ jm_tbl := jm_in (List.mem_of_getElem? (i := 953) (by decide +kernel)) rfl
theorem im_Z_isTold : Cond.instanceMethod ⟨"LyingBeaconsModel", "isTold", "(III)Z"⟩ ∈ jm_tbl := jm_in (List.mem_of_getElem? (i := 955) (by decide +kernel)) rfl
theorem se_Z_isTold : Cond.selects "LyingBeaconsModel" ⟨"LyingBeaconsModel", "isTold", "(III)Z"⟩ ⟨"LyingBeaconsModel", "isTold", "(III)Z"⟩ ∈ jm_tbl := jm_in (List.mem_of_getElem? (i := 39) (by decide +kernel)) rfl
theorem ml_Z_153 : Cond.methodLink "LyingBeaconsModel" 153 ⟨"LyingBeaconsModel", "isLiar", "(I)Z"⟩ ∈ jm_tbl := jm_in (List.mem_of_getElem? (i := 949) (by decide +kernel)) rfl
theorem im_Z_isLiar : Cond.instanceMethod ⟨"LyingBeaconsModel", "isLiar", "(I)Z"⟩ ∈ jm_tbl := jm_in (List.mem_of_getElem? (i := 951) (by decide +kernel)) rfl
theorem se_Z_isLiar : Cond.selects "LyingBeaconsModel" ⟨"LyingBeaconsModel", "isLiar", "(I)Z"⟩ ⟨"LyingBeaconsModel", "isLiar", "(I)Z"⟩ ∈ jm_tbl := jm_in (List.mem_of_getElem? (i := 38) (by decide +kernel)) rfl
theorem l0_Z_layNight__Z_kindles : jm_l0 mY_Z_layNight mY_Z_kindles := ⟨⟨Nat.le_of_ble_eq_true rfl, Nat.le_of_ble_eq_true rfl⟩, rfl, rfl⟩
theorem ml_Z_162 : Cond.methodLink "LyingBeaconsModel" 162 ⟨"LyingBeaconsModel", "kindles", "(II)Z"⟩ ∈ jm_tbl := jm_in (List.mem_of_getElem? (i := 945) (by decide +kernel)) rfl
theorem im_Z_kindles : Cond.instanceMethod ⟨"LyingBeaconsModel", "kindles", "(II)Z"⟩ ∈ jm_tbl := jm_in (List.mem_of_getElem? (i := 947) (by decide +kernel)) rfl
theorem se_Z_kindles : Cond.selects "LyingBeaconsModel" ⟨"LyingBeaconsModel", "kindles", "(II)Z"⟩ ⟨"LyingBeaconsModel", "kindles", "(II)Z"⟩ ∈ jm_tbl := jm_in (List.mem_of_getElem? (i := 37) (by decide +kernel)) rfl
theorem l0_Z_burns__Z_layNight : jm_l0 mY_Z_burns mY_Z_layNight := ⟨⟨Nat.le_of_ble_eq_true rfl, Nat.le_of_ble_eq_true rfl⟩, rfl, rfl⟩
theorem ml_Z_165 : Cond.methodLink "LyingBeaconsModel" 165 ⟨"LyingBeaconsModel", "layNight", "()V"⟩ ∈ jm_tbl := jm_in (List.mem_of_getElem? (i := 941) (by decide +kernel)) rfl
theorem im_Z_layNight : Cond.instanceMethod ⟨"LyingBeaconsModel", "layNight", "()V"⟩ ∈ jm_tbl := jm_in (List.mem_of_getElem? (i := 943) (by decide +kernel)) rfl
theorem se_Z_layNight : Cond.selects "LyingBeaconsModel" ⟨"LyingBeaconsModel", "layNight", "()V"⟩ ⟨"LyingBeaconsModel", "layNight", "()V"⟩ ∈ jm_tbl := jm_in (List.mem_of_getElem? (i := 36) (by decide +kernel)) rfl
theorem l0_Law__Z_burns (L : Nat) (xs : Nat → Int32) : jm_l0 (mY_Law L xs) mY_Z_burns := ⟨⟨Nat.le_of_ble_eq_true rfl, Nat.le_of_ble_eq_true rfl⟩, rfl, rfl⟩
theorem ml_Law_46 : Cond.methodLink "LyingBeaconsLaw" 46 ⟨"LyingBeaconsModel", "burns", "(II)I"⟩ ∈ jm_tbl := jm_in (List.mem_of_getElem? (i := 937) (by decide +kernel)) rfl
theorem im_Z_burns : Cond.instanceMethod ⟨"LyingBeaconsModel", "burns", "(II)I"⟩ ∈ jm_tbl := jm_in (List.mem_of_getElem? (i := 938) (by decide +kernel)) rfl
theorem se_Z_burns : Cond.selects "LyingBeaconsModel" ⟨"LyingBeaconsModel", "burns", "(II)I"⟩ ⟨"LyingBeaconsModel", "burns", "(II)I"⟩ ∈ jm_tbl := jm_in (List.mem_of_getElem? (i := 939) (by decide +kernel)) rfl
theorem ml_Law_43 : Cond.methodLink "LyingBeaconsLaw" 43 ⟨"LyingBeacons", "burns", "(II)I"⟩ ∈ jm_tbl := jm_in (List.mem_of_getElem? (i := 440) (by decide +kernel)) rfl
theorem im_X_burns : Cond.instanceMethod ⟨"LyingBeacons", "burns", "(II)I"⟩ ∈ jm_tbl := jm_in (List.mem_of_getElem? (i := 441) (by decide +kernel)) rfl
theorem se_X_burns : Cond.selects "LyingBeacons" ⟨"LyingBeacons", "burns", "(II)I"⟩ ⟨"LyingBeacons", "burns", "(II)I"⟩ ∈ jm_tbl := jm_in (List.mem_of_getElem? (i := 442) (by decide +kernel)) rfl
def mY_X_seen : jm_Y := (⟨"LyingBeacons", "seen", "(I)I"⟩, prog_1_method_9_code, 4, some .int, { frames := 6, cells := 0, slots := 0, locals := 141 }, none)
theorem cw_X_seen : Cond.code (jm_nm mY_X_seen) (jm_cd mY_X_seen) (jm_ml mY_X_seen) (jm_rt mY_X_seen) ∈ jm_tbl := jm_in (List.mem_of_getElem? (i := 482) (by decide +kernel)) rfl
theorem ok_X_seen : jm_ok mY_X_seen 1 := ⟨by decide, rfl, cw_X_seen, ini_X, by decide +kernel⟩
theorem l0_X_seen__X_isMinute : jm_l0 mY_X_seen mY_X_isMinute := ⟨⟨Nat.le_of_ble_eq_true rfl, Nat.le_of_ble_eq_true rfl⟩, rfl, rfl⟩
theorem l0_X_seen__X_playNight : jm_l0 mY_X_seen mY_X_playNight := ⟨⟨Nat.le_of_ble_eq_true rfl, Nat.le_of_ble_eq_true rfl⟩, rfl, rfl⟩
theorem l0_X_seen__Ni_isLit : jm_l0 mY_X_seen mY_Ni_isLit := ⟨⟨Nat.le_of_ble_eq_true rfl, Nat.le_of_ble_eq_true rfl⟩, rfl, rfl⟩
theorem l0_Law__X_seen (L : Nat) (xs : Nat → Int32) : jm_l0 (mY_Law L xs) mY_X_seen := ⟨⟨Nat.le_of_ble_eq_true rfl, Nat.le_of_ble_eq_true rfl⟩, rfl, rfl⟩
def mY_Z_seen : jm_Y := (⟨"LyingBeaconsModel", "seen", "(I)I"⟩, prog_11_method_31_code, 2, some .int, { frames := 5, cells := 0, slots := 0, locals := 124 }, none)
theorem cw_Z_seen : Cond.code (jm_nm mY_Z_seen) (jm_cd mY_Z_seen) (jm_ml mY_Z_seen) (jm_rt mY_Z_seen) ∈ jm_tbl := jm_in (List.mem_of_getElem? (i := 968) (by decide +kernel)) rfl
theorem ok_Z_seen : jm_ok mY_Z_seen 1 := ⟨by decide, rfl, cw_Z_seen, ini_Z, by decide +kernel⟩
theorem l0_Z_seen__Z_in : jm_l0 mY_Z_seen mY_Z_in := ⟨⟨Nat.le_of_ble_eq_true rfl, Nat.le_of_ble_eq_true rfl⟩, rfl, rfl⟩
theorem l0_Z_seen__Z_layNight : jm_l0 mY_Z_seen mY_Z_layNight := ⟨⟨Nat.le_of_ble_eq_true rfl, Nat.le_of_ble_eq_true rfl⟩, rfl, rfl⟩
theorem l0_Law__Z_seen (L : Nat) (xs : Nat → Int32) : jm_l0 (mY_Law L xs) mY_Z_seen := ⟨⟨Nat.le_of_ble_eq_true rfl, Nat.le_of_ble_eq_true rfl⟩, rfl, rfl⟩
theorem ml_Law_51 : Cond.methodLink "LyingBeaconsLaw" 51 ⟨"LyingBeaconsModel", "seen", "(I)I"⟩ ∈ jm_tbl := jm_in (List.mem_of_getElem? (i := 965) (by decide +kernel)) rfl
theorem im_Z_seen : Cond.instanceMethod ⟨"LyingBeaconsModel", "seen", "(I)I"⟩ ∈ jm_tbl := jm_in (List.mem_of_getElem? (i := 966) (by decide +kernel)) rfl
theorem se_Z_seen : Cond.selects "LyingBeaconsModel" ⟨"LyingBeaconsModel", "seen", "(I)I"⟩ ⟨"LyingBeaconsModel", "seen", "(I)I"⟩ ∈ jm_tbl := jm_in (List.mem_of_getElem? (i := 967) (by decide +kernel)) rfl
theorem ml_Law_47 : Cond.methodLink "LyingBeaconsLaw" 47 ⟨"LyingBeacons", "seen", "(I)I"⟩ ∈ jm_tbl := jm_in (List.mem_of_getElem? (i := 479) (by decide +kernel)) rfl
theorem im_X_seen : Cond.instanceMethod ⟨"LyingBeacons", "seen", "(I)I"⟩ ∈ jm_tbl := jm_in (List.mem_of_getElem? (i := 480) (by decide +kernel)) rfl
theorem se_X_seen : Cond.selects "LyingBeacons" ⟨"LyingBeacons", "seen", "(I)I"⟩ ⟨"LyingBeacons", "seen", "(I)I"⟩ ∈ jm_tbl := jm_in (List.mem_of_getElem? (i := 481) (by decide +kernel)) rfl
def mY_X_wood : jm_Y := (⟨"LyingBeacons", "wood", "(I)I"⟩, prog_1_method_10_code, 2, some .int, { frames := 6, cells := 0, slots := 0, locals := 141 }, none)
theorem cw_X_wood : Cond.code (jm_nm mY_X_wood) (jm_cd mY_X_wood) (jm_ml mY_X_wood) (jm_rt mY_X_wood) ∈ jm_tbl := jm_in (List.mem_of_getElem? (i := 486) (by decide +kernel)) rfl
theorem ok_X_wood : jm_ok mY_X_wood 1 := ⟨by decide, rfl, cw_X_wood, ini_X, by decide +kernel⟩
theorem l0_X_wood__Ne_isHill : jm_l0 mY_X_wood mY_Ne_isHill := ⟨⟨Nat.le_of_ble_eq_true rfl, Nat.le_of_ble_eq_true rfl⟩, rfl, rfl⟩
theorem l0_X_wood__X_playNight : jm_l0 mY_X_wood mY_X_playNight := ⟨⟨Nat.le_of_ble_eq_true rfl, Nat.le_of_ble_eq_true rfl⟩, rfl, rfl⟩
theorem fo_X_138 : jm_fo "LyingBeacons" 138 3 0 RX4 TX4 3 := ⟨inY4, rfl, by decide, jm_in (List.mem_of_getElem? (i := 204) (by decide +kernel)) rfl⟩
theorem l0_Law__X_wood (L : Nat) (xs : Nat → Int32) : jm_l0 (mY_Law L xs) mY_X_wood := ⟨⟨Nat.le_of_ble_eq_true rfl, Nat.le_of_ble_eq_true rfl⟩, rfl, rfl⟩
def mY_Z_wood : jm_Y := (⟨"LyingBeaconsModel", "wood", "(I)I"⟩, prog_11_method_32_code, 2, some .int, { frames := 5, cells := 0, slots := 0, locals := 124 }, none)
theorem cw_Z_wood : Cond.code (jm_nm mY_Z_wood) (jm_cd mY_Z_wood) (jm_ml mY_Z_wood) (jm_rt mY_Z_wood) ∈ jm_tbl := jm_in (List.mem_of_getElem? (i := 972) (by decide +kernel)) rfl
theorem ok_Z_wood : jm_ok mY_Z_wood 1 := ⟨by decide, rfl, cw_Z_wood, ini_Z, by decide +kernel⟩
theorem l0_Z_wood__Z_isHill : jm_l0 mY_Z_wood mY_Z_isHill := ⟨⟨Nat.le_of_ble_eq_true rfl, Nat.le_of_ble_eq_true rfl⟩, rfl, rfl⟩
theorem l0_Z_wood__Z_layNight : jm_l0 mY_Z_wood mY_Z_layNight := ⟨⟨Nat.le_of_ble_eq_true rfl, Nat.le_of_ble_eq_true rfl⟩, rfl, rfl⟩
theorem l0_Law__Z_wood (L : Nat) (xs : Nat → Int32) : jm_l0 (mY_Law L xs) mY_Z_wood := ⟨⟨Nat.le_of_ble_eq_true rfl, Nat.le_of_ble_eq_true rfl⟩, rfl, rfl⟩
theorem ml_Law_55 : Cond.methodLink "LyingBeaconsLaw" 55 ⟨"LyingBeaconsModel", "wood", "(I)I"⟩ ∈ jm_tbl := jm_in (List.mem_of_getElem? (i := 969) (by decide +kernel)) rfl
theorem im_Z_wood : Cond.instanceMethod ⟨"LyingBeaconsModel", "wood", "(I)I"⟩ ∈ jm_tbl := jm_in (List.mem_of_getElem? (i := 970) (by decide +kernel)) rfl
theorem se_Z_wood : Cond.selects "LyingBeaconsModel" ⟨"LyingBeaconsModel", "wood", "(I)I"⟩ ⟨"LyingBeaconsModel", "wood", "(I)I"⟩ ∈ jm_tbl := jm_in (List.mem_of_getElem? (i := 971) (by decide +kernel)) rfl
theorem ml_Law_52 : Cond.methodLink "LyingBeaconsLaw" 52 ⟨"LyingBeacons", "wood", "(I)I"⟩ ∈ jm_tbl := jm_in (List.mem_of_getElem? (i := 483) (by decide +kernel)) rfl
theorem im_X_wood : Cond.instanceMethod ⟨"LyingBeacons", "wood", "(I)I"⟩ ∈ jm_tbl := jm_in (List.mem_of_getElem? (i := 484) (by decide +kernel)) rfl
theorem se_X_wood : Cond.selects "LyingBeacons" ⟨"LyingBeacons", "wood", "(I)I"⟩ ⟨"LyingBeacons", "wood", "(I)I"⟩ ∈ jm_tbl := jm_in (List.mem_of_getElem? (i := 485) (by decide +kernel)) rfl
def mY_X_alarm : jm_Y := (⟨"LyingBeacons", "alarm", "()I"⟩, prog_1_method_11_code, 1, some .int, { frames := 6, cells := 0, slots := 0, locals := 141 }, none)
theorem cw_X_alarm : Cond.code (jm_nm mY_X_alarm) (jm_cd mY_X_alarm) (jm_ml mY_X_alarm) (jm_rt mY_X_alarm) ∈ jm_tbl := jm_in (List.mem_of_getElem? (i := 490) (by decide +kernel)) rfl
theorem ok_X_alarm : jm_ok mY_X_alarm 0 := ⟨by decide, rfl, cw_X_alarm, ini_X, by decide +kernel⟩
theorem l0_X_alarm__Ne_hasEar : jm_l0 mY_X_alarm mY_Ne_hasEar := ⟨⟨Nat.le_of_ble_eq_true rfl, Nat.le_of_ble_eq_true rfl⟩, rfl, rfl⟩
theorem l0_X_alarm__X_playNight : jm_l0 mY_X_alarm mY_X_playNight := ⟨⟨Nat.le_of_ble_eq_true rfl, Nat.le_of_ble_eq_true rfl⟩, rfl, rfl⟩
theorem fo_X_145 : jm_fo "LyingBeacons" 145 3 1 RX4 TX4 3 := ⟨inY4, rfl, by decide, jm_in (List.mem_of_getElem? (i := 206) (by decide +kernel)) rfl⟩
theorem ml_X_141 : Cond.methodLink "LyingBeacons" 141 ⟨"LyingBeacons$Net", "hasEar", "()Z"⟩ ∈ jm_tbl := jm_in (List.mem_of_getElem? (i := 491) (by decide +kernel)) rfl
theorem l0_Law__X_alarm (L : Nat) (xs : Nat → Int32) : jm_l0 (mY_Law L xs) mY_X_alarm := ⟨⟨Nat.le_of_ble_eq_true rfl, Nat.le_of_ble_eq_true rfl⟩, rfl, rfl⟩
def mY_Z_alarm : jm_Y := (⟨"LyingBeaconsModel", "alarm", "()I"⟩, prog_11_method_33_code, 3, some .int, { frames := 5, cells := 0, slots := 0, locals := 124 }, none)
theorem cw_Z_alarm : Cond.code (jm_nm mY_Z_alarm) (jm_cd mY_Z_alarm) (jm_ml mY_Z_alarm) (jm_rt mY_Z_alarm) ∈ jm_tbl := jm_in (List.mem_of_getElem? (i := 976) (by decide +kernel)) rfl
theorem ok_Z_alarm : jm_ok mY_Z_alarm 0 := ⟨by decide, rfl, cw_Z_alarm, ini_Z, by decide +kernel⟩
def mY_Z_ear : jm_Y := (⟨"LyingBeaconsModel", "ear", "()I"⟩, prog_11_method_22_code, 2, some .int, { frames := 0, cells := 0, slots := 0, locals := 0 }, none)
theorem cw_Z_ear : Cond.code (jm_nm mY_Z_ear) (jm_cd mY_Z_ear) (jm_ml mY_Z_ear) (jm_rt mY_Z_ear) ∈ jm_tbl := jm_in (List.mem_of_getElem? (i := 980) (by decide +kernel)) rfl
theorem ok_Z_ear : jm_ok mY_Z_ear 0 := ⟨by decide, rfl, cw_Z_ear, ini_Z, by decide +kernel⟩
theorem l0_Z_alarm__Z_ear : jm_l0 mY_Z_alarm mY_Z_ear := ⟨⟨Nat.le_of_ble_eq_true rfl, Nat.le_of_ble_eq_true rfl⟩, rfl, rfl⟩
theorem l0_Z_alarm__Z_layNight : jm_l0 mY_Z_alarm mY_Z_layNight := ⟨⟨Nat.le_of_ble_eq_true rfl, Nat.le_of_ble_eq_true rfl⟩, rfl, rfl⟩
theorem l0_Z_alarm__Z_held : jm_l0 mY_Z_alarm mY_Z_held := ⟨⟨Nat.le_of_ble_eq_true rfl, Nat.le_of_ble_eq_true rfl⟩, rfl, rfl⟩
theorem l0_Z_alarm__Z_isTold : jm_l0 mY_Z_alarm mY_Z_isTold := ⟨⟨Nat.le_of_ble_eq_true rfl, Nat.le_of_ble_eq_true rfl⟩, rfl, rfl⟩
theorem ml_Z_168 : Cond.methodLink "LyingBeaconsModel" 168 ⟨"LyingBeaconsModel", "ear", "()I"⟩ ∈ jm_tbl := jm_in (List.mem_of_getElem? (i := 977) (by decide +kernel)) rfl
theorem im_Z_ear : Cond.instanceMethod ⟨"LyingBeaconsModel", "ear", "()I"⟩ ∈ jm_tbl := jm_in (List.mem_of_getElem? (i := 979) (by decide +kernel)) rfl
theorem se_Z_ear : Cond.selects "LyingBeaconsModel" ⟨"LyingBeaconsModel", "ear", "()I"⟩ ⟨"LyingBeaconsModel", "ear", "()I"⟩ ∈ jm_tbl := jm_in (List.mem_of_getElem? (i := 42) (by decide +kernel)) rfl
theorem l0_Law__Z_alarm (L : Nat) (xs : Nat → Int32) : jm_l0 (mY_Law L xs) mY_Z_alarm := ⟨⟨Nat.le_of_ble_eq_true rfl, Nat.le_of_ble_eq_true rfl⟩, rfl, rfl⟩
theorem ml_Law_59 : Cond.methodLink "LyingBeaconsLaw" 59 ⟨"LyingBeaconsModel", "alarm", "()I"⟩ ∈ jm_tbl := jm_in (List.mem_of_getElem? (i := 973) (by decide +kernel)) rfl
theorem im_Z_alarm : Cond.instanceMethod ⟨"LyingBeaconsModel", "alarm", "()I"⟩ ∈ jm_tbl := jm_in (List.mem_of_getElem? (i := 974) (by decide +kernel)) rfl
theorem se_Z_alarm : Cond.selects "LyingBeaconsModel" ⟨"LyingBeaconsModel", "alarm", "()I"⟩ ⟨"LyingBeaconsModel", "alarm", "()I"⟩ ∈ jm_tbl := jm_in (List.mem_of_getElem? (i := 975) (by decide +kernel)) rfl
theorem ml_Law_56 : Cond.methodLink "LyingBeaconsLaw" 56 ⟨"LyingBeacons", "alarm", "()I"⟩ ∈ jm_tbl := jm_in (List.mem_of_getElem? (i := 487) (by decide +kernel)) rfl
theorem im_X_alarm : Cond.instanceMethod ⟨"LyingBeacons", "alarm", "()I"⟩ ∈ jm_tbl := jm_in (List.mem_of_getElem? (i := 488) (by decide +kernel)) rfl
theorem se_X_alarm : Cond.selects "LyingBeacons" ⟨"LyingBeacons", "alarm", "()I"⟩ ⟨"LyingBeacons", "alarm", "()I"⟩ ∈ jm_tbl := jm_in (List.mem_of_getElem? (i := 489) (by decide +kernel)) rfl
def mY_X_falseBy : jm_Y := (⟨"LyingBeacons", "falseBy", "(I)I"⟩, prog_1_method_12_code, 2, some .int, { frames := 3, cells := 0, slots := 0, locals := 66 }, none)
theorem cw_X_falseBy : Cond.code (jm_nm mY_X_falseBy) (jm_cd mY_X_falseBy) (jm_ml mY_X_falseBy) (jm_rt mY_X_falseBy) ∈ jm_tbl := jm_in (List.mem_of_getElem? (i := 495) (by decide +kernel)) rfl
theorem ok_X_falseBy : jm_ok mY_X_falseBy 1 := ⟨by decide, rfl, cw_X_falseBy, ini_X, by decide +kernel⟩
def mY_Ne_folk : jm_Y := (⟨"LyingBeacons$Net", "folk", "()I"⟩, prog_5_method_6_code, 1, some .int, { frames := 1, cells := 0, slots := 0, locals := 23 }, none)
theorem cw_Ne_folk : Cond.code (jm_nm mY_Ne_folk) (jm_cd mY_Ne_folk) (jm_ml mY_Ne_folk) (jm_rt mY_Ne_folk) ∈ jm_tbl := jm_in (List.mem_of_getElem? (i := 499) (by decide +kernel)) rfl
theorem ok_Ne_folk : jm_ok mY_Ne_folk 0 := ⟨by decide, rfl, cw_Ne_folk, ini_Ne, by decide +kernel⟩
theorem l0_Ne_folk__Ne_ofKind : jm_l0 mY_Ne_folk mY_Ne_ofKind := ⟨⟨Nat.le_of_ble_eq_true rfl, Nat.le_of_ble_eq_true rfl⟩, rfl, rfl⟩
theorem l0_X_falseBy__Ne_folk : jm_l0 mY_X_falseBy mY_Ne_folk := ⟨⟨Nat.le_of_ble_eq_true rfl, Nat.le_of_ble_eq_true rfl⟩, rfl, rfl⟩
theorem l0_X_falseBy__Ne_hasEar : jm_l0 mY_X_falseBy mY_Ne_hasEar := ⟨⟨Nat.le_of_ble_eq_true rfl, Nat.le_of_ble_eq_true rfl⟩, rfl, rfl⟩
theorem mr_154_1_10 : mr_154 1 10 = some 48 := by decide
def mY_Co_study : jm_Y := (⟨"LyingBeacons$Council", "study", "(LLyingBeacons$Net;)V"⟩, prog_2_method_2_code, 3, none, { frames := 2, cells := 0, slots := 0, locals := 43 }, none)
theorem cw_Co_study : Cond.code (jm_nm mY_Co_study) (jm_cd mY_Co_study) (jm_ml mY_Co_study) (jm_rt mY_Co_study) ∈ jm_tbl := jm_in (List.mem_of_getElem? (i := 503) (by decide +kernel)) rfl
theorem ok_Co_study : jm_ok mY_Co_study 1 := ⟨by decide, rfl, cw_Co_study, ini_Co, by decide +kernel⟩
theorem l0_Co_study__Ne_ofKind : jm_l0 mY_Co_study mY_Ne_ofKind := ⟨⟨Nat.le_of_ble_eq_true rfl, Nat.le_of_ble_eq_true rfl⟩, rfl, rfl⟩
theorem l0_Co_study__Ne_folk : jm_l0 mY_Co_study mY_Ne_folk := ⟨⟨Nat.le_of_ble_eq_true rfl, Nat.le_of_ble_eq_true rfl⟩, rfl, rfl⟩
theorem le_48_78 : 48 ≤ 78 := by decide
theorem mr_154_48_5 : mr_154 48 5 = some 49 := by decide
theorem fo_Co_52 : jm_fo "LyingBeacons$Council" 52 2 2 RX3 TX3 12 := ⟨inY3, rfl, by decide, jm_in (List.mem_of_getElem? (i := 133) (by decide +kernel)) rfl⟩
theorem mr_154_48_6 : mr_154 48 6 = some 50 := by decide
theorem fo_Co_53 : jm_fo "LyingBeacons$Council" 53 2 3 RX3 TX3 12 := ⟨inY3, rfl, by decide, jm_in (List.mem_of_getElem? (i := 139) (by decide +kernel)) rfl⟩
theorem mr_154_48_7 : mr_154 48 7 = some 51 := by decide
theorem fo_Co_54 : jm_fo "LyingBeacons$Council" 54 2 4 RX3 TX3 12 := ⟨inY3, rfl, by decide, jm_in (List.mem_of_getElem? (i := 145) (by decide +kernel)) rfl⟩
theorem fo_Co_55 : jm_fo "LyingBeacons$Council" 55 2 1 RX3 TX3 12 := ⟨inY3, rfl, by decide, jm_in (List.mem_of_getElem? (i := 127) (by decide +kernel)) rfl⟩
theorem le_51_78 : 51 ≤ 78 := by decide
theorem le_50_78 : 50 ≤ 78 := by decide
theorem le_49_78 : 49 ≤ 78 := by decide
theorem ml_Co_49 : Cond.methodLink "LyingBeacons$Council" 49 ⟨"LyingBeacons$Net", "folk", "()I"⟩ ∈ jm_tbl := jm_in (List.mem_of_getElem? (i := 505) (by decide +kernel)) rfl
theorem im_Ne_folk : Cond.instanceMethod ⟨"LyingBeacons$Net", "folk", "()I"⟩ ∈ jm_tbl := jm_in (List.mem_of_getElem? (i := 497) (by decide +kernel)) rfl
theorem se_Ne_folk : Cond.selects "LyingBeacons$Net" ⟨"LyingBeacons$Net", "folk", "()I"⟩ ⟨"LyingBeacons$Net", "folk", "()I"⟩ ∈ jm_tbl := jm_in (List.mem_of_getElem? (i := 498) (by decide +kernel)) rfl
theorem ml_Co_43 : Cond.methodLink "LyingBeacons$Council" 43 ⟨"LyingBeacons$Net", "ofKind", "(I)I"⟩ ∈ jm_tbl := jm_in (List.mem_of_getElem? (i := 504) (by decide +kernel)) rfl
theorem l0_X_falseBy__Co_study : jm_l0 mY_X_falseBy mY_Co_study := ⟨⟨Nat.le_of_ble_eq_true rfl, Nat.le_of_ble_eq_true rfl⟩, rfl, rfl⟩
def mY_Co_isFooledBy : jm_Y := (⟨"LyingBeacons$Council", "isFooledBy", "(I)Z"⟩, prog_2_method_4_code, 2, some .boolean, { frames := 2, cells := 0, slots := 0, locals := 45 }, none)
theorem cw_Co_isFooledBy : Cond.code (jm_nm mY_Co_isFooledBy) (jm_cd mY_Co_isFooledBy) (jm_ml mY_Co_isFooledBy) (jm_rt mY_Co_isFooledBy) ∈ jm_tbl := jm_in (List.mem_of_getElem? (i := 509) (by decide +kernel)) rfl
theorem ok_Co_isFooledBy : jm_ok mY_Co_isFooledBy 1 := ⟨by decide, rfl, cw_Co_isFooledBy, ini_Co, by decide +kernel⟩
def mY_Co_ring : jm_Y := (⟨"LyingBeacons$Council", "ring", "(I)I"⟩, prog_2_method_3_code, 6, some .int, { frames := 1, cells := 0, slots := 0, locals := 20 }, none)
theorem cw_Co_ring : Cond.code (jm_nm mY_Co_ring) (jm_cd mY_Co_ring) (jm_ml mY_Co_ring) (jm_rt mY_Co_ring) ∈ jm_tbl := jm_in (List.mem_of_getElem? (i := 513) (by decide +kernel)) rfl
theorem ok_Co_ring : jm_ok mY_Co_ring 1 := ⟨by decide, rfl, cw_Co_ring, ini_Co, by decide +kernel⟩
def mY_JI_bitCount : jm_Y := (⟨"java/lang/Integer", "bitCount", "(I)I"⟩, prog_12_method_49_code, 1, some .int, { frames := 0, cells := 0, slots := 0, locals := 0 }, none)
theorem cw_JI_bitCount : Cond.code (jm_nm mY_JI_bitCount) (jm_cd mY_JI_bitCount) (jm_ml mY_JI_bitCount) (jm_rt mY_JI_bitCount) ∈ jm_tbl := jm_in (List.mem_of_getElem? (i := 516) (by decide +kernel)) rfl
theorem ini_JI : Cond.initialized "java/lang/Integer" ∈ jm_tbl := jm_in (List.mem_of_getElem? (i := 72) (by decide +kernel)) rfl
theorem ok_JI_bitCount : jm_ok mY_JI_bitCount 1 := ⟨by decide, rfl, cw_JI_bitCount, ini_JI, by decide +kernel⟩
theorem k_JI_265 : Cond.constant "java/lang/Integer" 265 (1431655765 : Int32) ∈ jm_tbl := jm_in (List.mem_of_getElem? (i := 517) (by decide +kernel)) rfl
theorem k_JI_266 : Cond.constant "java/lang/Integer" 266 (858993459 : Int32) ∈ jm_tbl := jm_in (List.mem_of_getElem? (i := 518) (by decide +kernel)) rfl
theorem k_JI_267 : Cond.constant "java/lang/Integer" 267 (252645135 : Int32) ∈ jm_tbl := jm_in (List.mem_of_getElem? (i := 519) (by decide +kernel)) rfl
theorem cb_16 : (Int8.ofInt 16).toInt32 = (16 : Int32) := by decide
theorem l0_Co_ring__JI_bitCount : jm_l0 mY_Co_ring mY_JI_bitCount := ⟨⟨Nat.le_of_ble_eq_true rfl, Nat.le_of_ble_eq_true rfl⟩, rfl, rfl⟩
theorem ml_Co_58 : Cond.methodLink "LyingBeacons$Council" 58 ⟨"java/lang/Integer", "bitCount", "(I)I"⟩ ∈ jm_tbl := jm_in (List.mem_of_getElem? (i := 514) (by decide +kernel)) rfl
theorem sm_JI_bitCount : Cond.static ⟨"java/lang/Integer", "bitCount", "(I)I"⟩ ∈ jm_tbl := jm_in (List.mem_of_getElem? (i := 515) (by decide +kernel)) rfl
theorem l0_Co_isFooledBy__Co_ring : jm_l0 mY_Co_isFooledBy mY_Co_ring := ⟨⟨Nat.le_of_ble_eq_true rfl, Nat.le_of_ble_eq_true rfl⟩, rfl, rfl⟩
theorem l0_Co_isFooledBy__JI_bitCount : jm_l0 mY_Co_isFooledBy mY_JI_bitCount := ⟨⟨Nat.le_of_ble_eq_true rfl, Nat.le_of_ble_eq_true rfl⟩, rfl, rfl⟩
theorem ml_Co_63 : Cond.methodLink "LyingBeacons$Council" 63 ⟨"LyingBeacons$Council", "ring", "(I)I"⟩ ∈ jm_tbl := jm_in (List.mem_of_getElem? (i := 510) (by decide +kernel)) rfl
theorem im_Co_ring : Cond.instanceMethod ⟨"LyingBeacons$Council", "ring", "(I)I"⟩ ∈ jm_tbl := jm_in (List.mem_of_getElem? (i := 511) (by decide +kernel)) rfl
theorem se_Co_ring : Cond.selects "LyingBeacons$Council" ⟨"LyingBeacons$Council", "ring", "(I)I"⟩ ⟨"LyingBeacons$Council", "ring", "(I)I"⟩ ∈ jm_tbl := jm_in (List.mem_of_getElem? (i := 512) (by decide +kernel)) rfl
theorem l0_X_falseBy__Co_isFooledBy : jm_l0 mY_X_falseBy mY_Co_isFooledBy := ⟨⟨Nat.le_of_ble_eq_true rfl, Nat.le_of_ble_eq_true rfl⟩, rfl, rfl⟩
theorem ml_X_155 : Cond.methodLink "LyingBeacons" 155 ⟨"LyingBeacons$Council", "isFooledBy", "(I)Z"⟩ ∈ jm_tbl := jm_in (List.mem_of_getElem? (i := 506) (by decide +kernel)) rfl
theorem im_Co_isFooledBy : Cond.instanceMethod ⟨"LyingBeacons$Council", "isFooledBy", "(I)Z"⟩ ∈ jm_tbl := jm_in (List.mem_of_getElem? (i := 507) (by decide +kernel)) rfl
theorem se_Co_isFooledBy : Cond.selects "LyingBeacons$Council" ⟨"LyingBeacons$Council", "isFooledBy", "(I)Z"⟩ ⟨"LyingBeacons$Council", "isFooledBy", "(I)Z"⟩ ∈ jm_tbl := jm_in (List.mem_of_getElem? (i := 508) (by decide +kernel)) rfl
theorem ml_X_152 : Cond.methodLink "LyingBeacons" 152 ⟨"LyingBeacons$Council", "study", "(LLyingBeacons$Net;)V"⟩ ∈ jm_tbl := jm_in (List.mem_of_getElem? (i := 500) (by decide +kernel)) rfl
theorem im_Co_study : Cond.instanceMethod ⟨"LyingBeacons$Council", "study", "(LLyingBeacons$Net;)V"⟩ ∈ jm_tbl := jm_in (List.mem_of_getElem? (i := 501) (by decide +kernel)) rfl
theorem se_Co_study : Cond.selects "LyingBeacons$Council" ⟨"LyingBeacons$Council", "study", "(LLyingBeacons$Net;)V"⟩ ⟨"LyingBeacons$Council", "study", "(LLyingBeacons$Net;)V"⟩ ∈ jm_tbl := jm_in (List.mem_of_getElem? (i := 502) (by decide +kernel)) rfl
theorem ml_X_148 : Cond.methodLink "LyingBeacons" 148 ⟨"LyingBeacons$Net", "folk", "()I"⟩ ∈ jm_tbl := jm_in (List.mem_of_getElem? (i := 496) (by decide +kernel)) rfl
theorem l0_Law__X_falseBy (L : Nat) (xs : Nat → Int32) : jm_l0 (mY_Law L xs) mY_X_falseBy := ⟨⟨Nat.le_of_ble_eq_true rfl, Nat.le_of_ble_eq_true rfl⟩, rfl, rfl⟩
def mY_Z_falseBy : jm_Y := (⟨"LyingBeaconsModel", "falseBy", "(I)I"⟩, prog_11_method_42_code, 2, some .int, { frames := 4, cells := 0, slots := 0, locals := 92 }, none)
theorem cw_Z_falseBy : Cond.code (jm_nm mY_Z_falseBy) (jm_cd mY_Z_falseBy) (jm_ml mY_Z_falseBy) (jm_rt mY_Z_falseBy) ∈ jm_tbl := jm_in (List.mem_of_getElem? (i := 984) (by decide +kernel)) rfl
theorem ok_Z_falseBy : jm_ok mY_Z_falseBy 1 := ⟨by decide, rfl, cw_Z_falseBy, ini_Z, by decide +kernel⟩
def mY_Z_asTold : jm_Y := (⟨"LyingBeaconsModel", "asTold", "()V"⟩, prog_11_method_34_code, 2, none, { frames := 0, cells := 0, slots := 0, locals := 0 }, none)
theorem cw_Z_asTold : Cond.code (jm_nm mY_Z_asTold) (jm_cd mY_Z_asTold) (jm_ml mY_Z_asTold) (jm_rt mY_Z_asTold) ∈ jm_tbl := jm_in (List.mem_of_getElem? (i := 988) (by decide +kernel)) rfl
theorem ok_Z_asTold : jm_ok mY_Z_asTold 0 := ⟨by decide, rfl, cw_Z_asTold, ini_Z, by decide +kernel⟩
theorem fo_Z_171 : jm_fo "LyingBeaconsModel" 171 8 22 RX9 TX9 30 := ⟨inY9, rfl, by decide, jm_in (List.mem_of_getElem? (i := 782) (by decide +kernel)) rfl⟩
theorem fp_Z_171 : jm_fp "LyingBeaconsModel" 171 8 22 RX9 TX9 30 false .int := ⟨fo_Z_171, ⟨tyX9, tyX9_ok⟩, nmX9, rfl, by decide +kernel, fun h => by first | rfl | cases h⟩
theorem fo_Z_174 : jm_fo "LyingBeaconsModel" 174 8 23 RX9 TX9 30 := ⟨inY9, rfl, by decide, jm_in (List.mem_of_getElem? (i := 783) (by decide +kernel)) rfl⟩
theorem fp_Z_174 : jm_fp "LyingBeaconsModel" 174 8 23 RX9 TX9 30 false .int := ⟨fo_Z_174, ⟨tyX9, tyX9_ok⟩, nmX9, rfl, by decide +kernel, fun h => by first | rfl | cases h⟩
theorem fo_Z_177 : jm_fo "LyingBeaconsModel" 177 8 24 RX9 TX9 30 := ⟨inY9, rfl, by decide, jm_in (List.mem_of_getElem? (i := 784) (by decide +kernel)) rfl⟩
theorem fp_Z_177 : jm_fp "LyingBeaconsModel" 177 8 24 RX9 TX9 30 false .int := ⟨fo_Z_177, ⟨tyX9, tyX9_ok⟩, nmX9, rfl, by decide +kernel, fun h => by first | rfl | cases h⟩
theorem fo_Z_180 : jm_fo "LyingBeaconsModel" 180 8 25 RX9 TX9 30 := ⟨inY9, rfl, by decide, jm_in (List.mem_of_getElem? (i := 785) (by decide +kernel)) rfl⟩
theorem fp_Z_180 : jm_fp "LyingBeaconsModel" 180 8 25 RX9 TX9 30 false .int := ⟨fo_Z_180, ⟨tyX9, tyX9_ok⟩, nmX9, rfl, by decide +kernel, fun h => by first | rfl | cases h⟩
theorem fo_Z_183 : jm_fo "LyingBeaconsModel" 183 8 26 RX9 TX9 30 := ⟨inY9, rfl, by decide, jm_in (List.mem_of_getElem? (i := 786) (by decide +kernel)) rfl⟩
theorem fp_Z_183 : jm_fp "LyingBeaconsModel" 183 8 26 RX9 TX9 30 false .int := ⟨fo_Z_183, ⟨tyX9, tyX9_ok⟩, nmX9, rfl, by decide +kernel, fun h => by first | rfl | cases h⟩
theorem l0_Z_falseBy__Z_asTold : jm_l0 mY_Z_falseBy mY_Z_asTold := ⟨⟨Nat.le_of_ble_eq_true rfl, Nat.le_of_ble_eq_true rfl⟩, rfl, rfl⟩
def mY_Z_men : jm_Y := (⟨"LyingBeaconsModel", "men", "()I"⟩, prog_11_method_40_code, 1, some .int, { frames := 1, cells := 0, slots := 0, locals := 23 }, none)
theorem cw_Z_men : Cond.code (jm_nm mY_Z_men) (jm_cd mY_Z_men) (jm_ml mY_Z_men) (jm_rt mY_Z_men) ∈ jm_tbl := jm_in (List.mem_of_getElem? (i := 992) (by decide +kernel)) rfl
theorem ok_Z_men : jm_ok mY_Z_men 0 := ⟨by decide, rfl, cw_Z_men, ini_Z, by decide +kernel⟩
theorem l0_Z_men__Z_ofKind : jm_l0 mY_Z_men mY_Z_ofKind := ⟨⟨Nat.le_of_ble_eq_true rfl, Nat.le_of_ble_eq_true rfl⟩, rfl, rfl⟩
theorem l0_Z_falseBy__Z_men : jm_l0 mY_Z_falseBy mY_Z_men := ⟨⟨Nat.le_of_ble_eq_true rfl, Nat.le_of_ble_eq_true rfl⟩, rfl, rfl⟩
theorem l0_Z_falseBy__Z_ear : jm_l0 mY_Z_falseBy mY_Z_ear := ⟨⟨Nat.le_of_ble_eq_true rfl, Nat.le_of_ble_eq_true rfl⟩, rfl, rfl⟩
def mY_Z_isFalse : jm_Y := (⟨"LyingBeaconsModel", "isFalse", "(I)Z"⟩, prog_11_method_41_code, 2, some .boolean, { frames := 3, cells := 0, slots := 0, locals := 71 }, none)
theorem cw_Z_isFalse : Cond.code (jm_nm mY_Z_isFalse) (jm_cd mY_Z_isFalse) (jm_ml mY_Z_isFalse) (jm_rt mY_Z_isFalse) ∈ jm_tbl := jm_in (List.mem_of_getElem? (i := 996) (by decide +kernel)) rfl
theorem ok_Z_isFalse : jm_ok mY_Z_isFalse 1 := ⟨by decide, rfl, cw_Z_isFalse, ini_Z, by decide +kernel⟩
def mY_Z_kindle : jm_Y := (⟨"LyingBeaconsModel", "kindle", "(II)V"⟩, prog_11_method_39_code, 4, none, { frames := 1, cells := 0, slots := 0, locals := 21 }, none)
theorem cw_Z_kindle : Cond.code (jm_nm mY_Z_kindle) (jm_cd mY_Z_kindle) (jm_ml mY_Z_kindle) (jm_rt mY_Z_kindle) ∈ jm_tbl := jm_in (List.mem_of_getElem? (i := 1000) (by decide +kernel)) rfl
theorem ok_Z_kindle : jm_ok mY_Z_kindle 2 := ⟨by decide, rfl, cw_Z_kindle, ini_Z, by decide +kernel⟩
theorem mr_154_59_27 : mr_154 59 27 = some 76 := by decide
theorem l0_Z_kindle__Z_has : jm_l0 mY_Z_kindle mY_Z_has := ⟨⟨Nat.le_of_ble_eq_true rfl, Nat.le_of_ble_eq_true rfl⟩, rfl, rfl⟩
theorem k_Z_186 : Cond.constant "LyingBeaconsModel" 186 (1000000 : Int32) ∈ jm_tbl := jm_in (List.mem_of_getElem? (i := 1001) (by decide +kernel)) rfl
theorem le_76_78 : 76 ≤ 78 := by decide
theorem l0_Z_isFalse__Z_kindle : jm_l0 mY_Z_isFalse mY_Z_kindle := ⟨⟨Nat.le_of_ble_eq_true rfl, Nat.le_of_ble_eq_true rfl⟩, rfl, rfl⟩
def mY_Z_spread : jm_Y := (⟨"LyingBeaconsModel", "spread", "(I)V"⟩, prog_11_method_38_code, 6, none, { frames := 2, cells := 0, slots := 0, locals := 46 }, none)
theorem cw_Z_spread : Cond.code (jm_nm mY_Z_spread) (jm_cd mY_Z_spread) (jm_ml mY_Z_spread) (jm_rt mY_Z_spread) ∈ jm_tbl := jm_in (List.mem_of_getElem? (i := 1005) (by decide +kernel)) rfl
theorem ok_Z_spread : jm_ok mY_Z_spread 1 := ⟨by decide, rfl, cw_Z_spread, ini_Z, by decide +kernel⟩
theorem l0_Z_spread__Z_has : jm_l0 mY_Z_spread mY_Z_has := ⟨⟨Nat.le_of_ble_eq_true rfl, Nat.le_of_ble_eq_true rfl⟩, rfl, rfl⟩
def mY_Z_takes : jm_Y := (⟨"LyingBeaconsModel", "takes", "(I)I"⟩, prog_11_method_36_code, 2, some .int, { frames := 0, cells := 0, slots := 0, locals := 0 }, none)
theorem cw_Z_takes : Cond.code (jm_nm mY_Z_takes) (jm_cd mY_Z_takes) (jm_ml mY_Z_takes) (jm_rt mY_Z_takes) ∈ jm_tbl := jm_in (List.mem_of_getElem? (i := 1017) (by decide +kernel)) rfl
theorem ok_Z_takes : jm_ok mY_Z_takes 1 := ⟨by decide, rfl, cw_Z_takes, ini_Z, by decide +kernel⟩
theorem l0_Z_spread__Z_takes : jm_l0 mY_Z_spread mY_Z_takes := ⟨⟨Nat.le_of_ble_eq_true rfl, Nat.le_of_ble_eq_true rfl⟩, rfl, rfl⟩
theorem ml_Z_193 : Cond.methodLink "LyingBeaconsModel" 193 ⟨"LyingBeaconsModel", "takes", "(I)I"⟩ ∈ jm_tbl := jm_in (List.mem_of_getElem? (i := 1014) (by decide +kernel)) rfl
theorem im_Z_takes : Cond.instanceMethod ⟨"LyingBeaconsModel", "takes", "(I)I"⟩ ∈ jm_tbl := jm_in (List.mem_of_getElem? (i := 1016) (by decide +kernel)) rfl
theorem se_Z_takes : Cond.selects "LyingBeaconsModel" ⟨"LyingBeaconsModel", "takes", "(I)I"⟩ ⟨"LyingBeaconsModel", "takes", "(I)I"⟩ ∈ jm_tbl := jm_in (List.mem_of_getElem? (i := 50) (by decide +kernel)) rfl
def mY_Z_together : jm_Y := (⟨"LyingBeaconsModel", "together", "(I)I"⟩, prog_11_method_37_code, 6, some .int, { frames := 1, cells := 0, slots := 0, locals := 21 }, none)
theorem cw_Z_together : Cond.code (jm_nm mY_Z_together) (jm_cd mY_Z_together) (jm_ml mY_Z_together) (jm_rt mY_Z_together) ∈ jm_tbl := jm_in (List.mem_of_getElem? (i := 1009) (by decide +kernel)) rfl
theorem ok_Z_together : jm_ok mY_Z_together 1 := ⟨by decide, rfl, cw_Z_together, ini_Z, by decide +kernel⟩
def mY_Z_needs : jm_Y := (⟨"LyingBeaconsModel", "needs", "(I)I"⟩, prog_11_method_35_code, 2, some .int, { frames := 0, cells := 0, slots := 0, locals := 0 }, none)
theorem cw_Z_needs : Cond.code (jm_nm mY_Z_needs) (jm_cd mY_Z_needs) (jm_ml mY_Z_needs) (jm_rt mY_Z_needs) ∈ jm_tbl := jm_in (List.mem_of_getElem? (i := 1013) (by decide +kernel)) rfl
theorem ok_Z_needs : jm_ok mY_Z_needs 1 := ⟨by decide, rfl, cw_Z_needs, ini_Z, by decide +kernel⟩
theorem l0_Z_together__Z_needs : jm_l0 mY_Z_together mY_Z_needs := ⟨⟨Nat.le_of_ble_eq_true rfl, Nat.le_of_ble_eq_true rfl⟩, rfl, rfl⟩
theorem mr_154_59_28 : mr_154 59 28 = some 77 := by decide
theorem le_77_78 : 77 ≤ 78 := by decide
theorem ml_Z_187 : Cond.methodLink "LyingBeaconsModel" 187 ⟨"LyingBeaconsModel", "needs", "(I)I"⟩ ∈ jm_tbl := jm_in (List.mem_of_getElem? (i := 1010) (by decide +kernel)) rfl
theorem im_Z_needs : Cond.instanceMethod ⟨"LyingBeaconsModel", "needs", "(I)I"⟩ ∈ jm_tbl := jm_in (List.mem_of_getElem? (i := 1012) (by decide +kernel)) rfl
theorem se_Z_needs : Cond.selects "LyingBeaconsModel" ⟨"LyingBeaconsModel", "needs", "(I)I"⟩ ⟨"LyingBeaconsModel", "needs", "(I)I"⟩ ∈ jm_tbl := jm_in (List.mem_of_getElem? (i := 49) (by decide +kernel)) rfl
theorem l0_Z_together__Z_has : jm_l0 mY_Z_together mY_Z_has := ⟨⟨Nat.le_of_ble_eq_true rfl, Nat.le_of_ble_eq_true rfl⟩, rfl, rfl⟩
theorem l0_Z_spread__Z_together : jm_l0 mY_Z_spread mY_Z_together := ⟨⟨Nat.le_of_ble_eq_true rfl, Nat.le_of_ble_eq_true rfl⟩, rfl, rfl⟩
theorem ml_Z_190 : Cond.methodLink "LyingBeaconsModel" 190 ⟨"LyingBeaconsModel", "together", "(I)I"⟩ ∈ jm_tbl := jm_in (List.mem_of_getElem? (i := 1006) (by decide +kernel)) rfl
theorem im_Z_together : Cond.instanceMethod ⟨"LyingBeaconsModel", "together", "(I)I"⟩ ∈ jm_tbl := jm_in (List.mem_of_getElem? (i := 1008) (by decide +kernel)) rfl
theorem se_Z_together : Cond.selects "LyingBeaconsModel" ⟨"LyingBeaconsModel", "together", "(I)I"⟩ ⟨"LyingBeaconsModel", "together", "(I)I"⟩ ∈ jm_tbl := jm_in (List.mem_of_getElem? (i := 48) (by decide +kernel)) rfl
theorem l0_Z_isFalse__Z_spread : jm_l0 mY_Z_isFalse mY_Z_spread := ⟨⟨Nat.le_of_ble_eq_true rfl, Nat.le_of_ble_eq_true rfl⟩, rfl, rfl⟩
theorem l0_Z_isFalse__Z_ear : jm_l0 mY_Z_isFalse mY_Z_ear := ⟨⟨Nat.le_of_ble_eq_true rfl, Nat.le_of_ble_eq_true rfl⟩, rfl, rfl⟩
theorem l0_Z_isFalse__Z_together : jm_l0 mY_Z_isFalse mY_Z_together := ⟨⟨Nat.le_of_ble_eq_true rfl, Nat.le_of_ble_eq_true rfl⟩, rfl, rfl⟩
theorem ml_Z_199 : Cond.methodLink "LyingBeaconsModel" 199 ⟨"LyingBeaconsModel", "spread", "(I)V"⟩ ∈ jm_tbl := jm_in (List.mem_of_getElem? (i := 1002) (by decide +kernel)) rfl
theorem im_Z_spread : Cond.instanceMethod ⟨"LyingBeaconsModel", "spread", "(I)V"⟩ ∈ jm_tbl := jm_in (List.mem_of_getElem? (i := 1004) (by decide +kernel)) rfl
theorem se_Z_spread : Cond.selects "LyingBeaconsModel" ⟨"LyingBeaconsModel", "spread", "(I)V"⟩ ⟨"LyingBeaconsModel", "spread", "(I)V"⟩ ∈ jm_tbl := jm_in (List.mem_of_getElem? (i := 47) (by decide +kernel)) rfl
theorem ml_Z_196 : Cond.methodLink "LyingBeaconsModel" 196 ⟨"LyingBeaconsModel", "kindle", "(II)V"⟩ ∈ jm_tbl := jm_in (List.mem_of_getElem? (i := 997) (by decide +kernel)) rfl
theorem im_Z_kindle : Cond.instanceMethod ⟨"LyingBeaconsModel", "kindle", "(II)V"⟩ ∈ jm_tbl := jm_in (List.mem_of_getElem? (i := 999) (by decide +kernel)) rfl
theorem se_Z_kindle : Cond.selects "LyingBeaconsModel" ⟨"LyingBeaconsModel", "kindle", "(II)V"⟩ ⟨"LyingBeaconsModel", "kindle", "(II)V"⟩ ∈ jm_tbl := jm_in (List.mem_of_getElem? (i := 46) (by decide +kernel)) rfl
theorem l0_Z_falseBy__Z_isFalse : jm_l0 mY_Z_falseBy mY_Z_isFalse := ⟨⟨Nat.le_of_ble_eq_true rfl, Nat.le_of_ble_eq_true rfl⟩, rfl, rfl⟩
theorem ml_Z_209 : Cond.methodLink "LyingBeaconsModel" 209 ⟨"LyingBeaconsModel", "isFalse", "(I)Z"⟩ ∈ jm_tbl := jm_in (List.mem_of_getElem? (i := 993) (by decide +kernel)) rfl
theorem im_Z_isFalse : Cond.instanceMethod ⟨"LyingBeaconsModel", "isFalse", "(I)Z"⟩ ∈ jm_tbl := jm_in (List.mem_of_getElem? (i := 995) (by decide +kernel)) rfl
theorem se_Z_isFalse : Cond.selects "LyingBeaconsModel" ⟨"LyingBeaconsModel", "isFalse", "(I)Z"⟩ ⟨"LyingBeaconsModel", "isFalse", "(I)Z"⟩ ∈ jm_tbl := jm_in (List.mem_of_getElem? (i := 45) (by decide +kernel)) rfl
theorem ml_Z_206 : Cond.methodLink "LyingBeaconsModel" 206 ⟨"LyingBeaconsModel", "men", "()I"⟩ ∈ jm_tbl := jm_in (List.mem_of_getElem? (i := 989) (by decide +kernel)) rfl
theorem im_Z_men : Cond.instanceMethod ⟨"LyingBeaconsModel", "men", "()I"⟩ ∈ jm_tbl := jm_in (List.mem_of_getElem? (i := 991) (by decide +kernel)) rfl
theorem se_Z_men : Cond.selects "LyingBeaconsModel" ⟨"LyingBeaconsModel", "men", "()I"⟩ ⟨"LyingBeaconsModel", "men", "()I"⟩ ∈ jm_tbl := jm_in (List.mem_of_getElem? (i := 44) (by decide +kernel)) rfl
theorem ml_Z_203 : Cond.methodLink "LyingBeaconsModel" 203 ⟨"LyingBeaconsModel", "asTold", "()V"⟩ ∈ jm_tbl := jm_in (List.mem_of_getElem? (i := 985) (by decide +kernel)) rfl
theorem im_Z_asTold : Cond.instanceMethod ⟨"LyingBeaconsModel", "asTold", "()V"⟩ ∈ jm_tbl := jm_in (List.mem_of_getElem? (i := 987) (by decide +kernel)) rfl
theorem se_Z_asTold : Cond.selects "LyingBeaconsModel" ⟨"LyingBeaconsModel", "asTold", "()V"⟩ ⟨"LyingBeaconsModel", "asTold", "()V"⟩ ∈ jm_tbl := jm_in (List.mem_of_getElem? (i := 43) (by decide +kernel)) rfl
theorem l0_Law__Z_falseBy (L : Nat) (xs : Nat → Int32) : jm_l0 (mY_Law L xs) mY_Z_falseBy := ⟨⟨Nat.le_of_ble_eq_true rfl, Nat.le_of_ble_eq_true rfl⟩, rfl, rfl⟩
theorem ml_Law_63 : Cond.methodLink "LyingBeaconsLaw" 63 ⟨"LyingBeaconsModel", "falseBy", "(I)I"⟩ ∈ jm_tbl := jm_in (List.mem_of_getElem? (i := 981) (by decide +kernel)) rfl
theorem im_Z_falseBy : Cond.instanceMethod ⟨"LyingBeaconsModel", "falseBy", "(I)I"⟩ ∈ jm_tbl := jm_in (List.mem_of_getElem? (i := 982) (by decide +kernel)) rfl
theorem se_Z_falseBy : Cond.selects "LyingBeaconsModel" ⟨"LyingBeaconsModel", "falseBy", "(I)I"⟩ ⟨"LyingBeaconsModel", "falseBy", "(I)I"⟩ ∈ jm_tbl := jm_in (List.mem_of_getElem? (i := 983) (by decide +kernel)) rfl
theorem ml_Law_60 : Cond.methodLink "LyingBeaconsLaw" 60 ⟨"LyingBeacons", "falseBy", "(I)I"⟩ ∈ jm_tbl := jm_in (List.mem_of_getElem? (i := 492) (by decide +kernel)) rfl
theorem im_X_falseBy : Cond.instanceMethod ⟨"LyingBeacons", "falseBy", "(I)I"⟩ ∈ jm_tbl := jm_in (List.mem_of_getElem? (i := 493) (by decide +kernel)) rfl
theorem se_X_falseBy : Cond.selects "LyingBeacons" ⟨"LyingBeacons", "falseBy", "(I)I"⟩ ⟨"LyingBeacons", "falseBy", "(I)I"⟩ ∈ jm_tbl := jm_in (List.mem_of_getElem? (i := 494) (by decide +kernel)) rfl
def mY_X_falseFor : jm_Y := (⟨"LyingBeacons", "falseFor", "(II)I"⟩, prog_1_method_13_code, 4, some .int, { frames := 4, cells := 0, slots := 0, locals := 90 }, none)
theorem cw_X_falseFor : Cond.code (jm_nm mY_X_falseFor) (jm_cd mY_X_falseFor) (jm_ml mY_X_falseFor) (jm_rt mY_X_falseFor) ∈ jm_tbl := jm_in (List.mem_of_getElem? (i := 523) (by decide +kernel)) rfl
theorem ok_X_falseFor : jm_ok mY_X_falseFor 2 := ⟨by decide, rfl, cw_X_falseFor, ini_X, by decide +kernel⟩
def mY_X_isNumberOfLiars : jm_Y := (⟨"LyingBeacons", "isNumberOfLiars", "(I)Z"⟩, prog_1_method_32_code, 1, some .boolean, { frames := 0, cells := 0, slots := 0, locals := 0 }, none)
theorem cw_X_isNumberOfLiars : Cond.code (jm_nm mY_X_isNumberOfLiars) (jm_cd mY_X_isNumberOfLiars) (jm_ml mY_X_isNumberOfLiars) (jm_rt mY_X_isNumberOfLiars) ∈ jm_tbl := jm_in (List.mem_of_getElem? (i := 526) (by decide +kernel)) rfl
theorem ok_X_isNumberOfLiars : jm_ok mY_X_isNumberOfLiars 1 := ⟨by decide, rfl, cw_X_isNumberOfLiars, ini_X, by decide +kernel⟩
theorem l0_X_falseFor__X_isNumberOfLiars : jm_l0 mY_X_falseFor mY_X_isNumberOfLiars := ⟨⟨Nat.le_of_ble_eq_true rfl, Nat.le_of_ble_eq_true rfl⟩, rfl, rfl⟩
theorem l0_X_falseFor__Ne_hasEar : jm_l0 mY_X_falseFor mY_Ne_hasEar := ⟨⟨Nat.le_of_ble_eq_true rfl, Nat.le_of_ble_eq_true rfl⟩, rfl, rfl⟩
theorem l0_X_falseFor__Co_study : jm_l0 mY_X_falseFor mY_Co_study := ⟨⟨Nat.le_of_ble_eq_true rfl, Nat.le_of_ble_eq_true rfl⟩, rfl, rfl⟩
def mY_Co_leastFoolingSet : jm_Y := (⟨"LyingBeacons$Council", "leastFoolingSet", "(I)I"⟩, prog_2_method_6_code, 4, some .int, { frames := 3, cells := 0, slots := 0, locals := 66 }, none)
theorem cw_Co_leastFoolingSet : Cond.code (jm_nm mY_Co_leastFoolingSet) (jm_cd mY_Co_leastFoolingSet) (jm_ml mY_Co_leastFoolingSet) (jm_rt mY_Co_leastFoolingSet) ∈ jm_tbl := jm_in (List.mem_of_getElem? (i := 538) (by decide +kernel)) rfl
theorem ok_Co_leastFoolingSet : jm_ok mY_Co_leastFoolingSet 1 := ⟨by decide, rfl, cw_Co_leastFoolingSet, ini_Co, by decide +kernel⟩
theorem cs_1024 : (Int16.ofInt 1024).toInt32 = (1024 : Int32) := by decide
theorem l0_Co_leastFoolingSet__JI_bitCount : jm_l0 mY_Co_leastFoolingSet mY_JI_bitCount := ⟨⟨Nat.le_of_ble_eq_true rfl, Nat.le_of_ble_eq_true rfl⟩, rfl, rfl⟩
def mY_Co_nextSet : jm_Y := (⟨"LyingBeacons$Council", "nextSet", "(II)I"⟩, prog_2_method_7_code, 2, some .int, { frames := 0, cells := 0, slots := 0, locals := 0 }, none)
theorem cw_Co_nextSet : Cond.code (jm_nm mY_Co_nextSet) (jm_cd mY_Co_nextSet) (jm_ml mY_Co_nextSet) (jm_rt mY_Co_nextSet) ∈ jm_tbl := jm_in (List.mem_of_getElem? (i := 534) (by decide +kernel)) rfl
theorem ok_Co_nextSet : jm_ok mY_Co_nextSet 2 := ⟨by decide, rfl, cw_Co_nextSet, ini_Co, by decide +kernel⟩
theorem l0_Co_leastFoolingSet__Co_nextSet : jm_l0 mY_Co_leastFoolingSet mY_Co_nextSet := ⟨⟨Nat.le_of_ble_eq_true rfl, Nat.le_of_ble_eq_true rfl⟩, rfl, rfl⟩
theorem ml_Co_70 : Cond.methodLink "LyingBeacons$Council" 70 ⟨"LyingBeacons$Council", "nextSet", "(II)I"⟩ ∈ jm_tbl := jm_in (List.mem_of_getElem? (i := 532) (by decide +kernel)) rfl
theorem sm_Co_nextSet : Cond.static ⟨"LyingBeacons$Council", "nextSet", "(II)I"⟩ ∈ jm_tbl := jm_in (List.mem_of_getElem? (i := 533) (by decide +kernel)) rfl
theorem l0_Co_leastFoolingSet__Co_isFooledBy : jm_l0 mY_Co_leastFoolingSet mY_Co_isFooledBy := ⟨⟨Nat.le_of_ble_eq_true rfl, Nat.le_of_ble_eq_true rfl⟩, rfl, rfl⟩
theorem ml_Co_66 : Cond.methodLink "LyingBeacons$Council" 66 ⟨"LyingBeacons$Council", "isFooledBy", "(I)Z"⟩ ∈ jm_tbl := jm_in (List.mem_of_getElem? (i := 531) (by decide +kernel)) rfl
theorem l0_X_falseFor__Co_leastFoolingSet : jm_l0 mY_X_falseFor mY_Co_leastFoolingSet := ⟨⟨Nat.le_of_ble_eq_true rfl, Nat.le_of_ble_eq_true rfl⟩, rfl, rfl⟩
theorem l0_X_falseFor__Co_ring : jm_l0 mY_X_falseFor mY_Co_ring := ⟨⟨Nat.le_of_ble_eq_true rfl, Nat.le_of_ble_eq_true rfl⟩, rfl, rfl⟩
theorem ml_X_167 : Cond.methodLink "LyingBeacons" 167 ⟨"LyingBeacons$Council", "ring", "(I)I"⟩ ∈ jm_tbl := jm_in (List.mem_of_getElem? (i := 539) (by decide +kernel)) rfl
theorem ml_X_164 : Cond.methodLink "LyingBeacons" 164 ⟨"LyingBeacons$Council", "leastFoolingSet", "(I)I"⟩ ∈ jm_tbl := jm_in (List.mem_of_getElem? (i := 535) (by decide +kernel)) rfl
theorem im_Co_leastFoolingSet : Cond.instanceMethod ⟨"LyingBeacons$Council", "leastFoolingSet", "(I)I"⟩ ∈ jm_tbl := jm_in (List.mem_of_getElem? (i := 536) (by decide +kernel)) rfl
theorem se_Co_leastFoolingSet : Cond.selects "LyingBeacons$Council" ⟨"LyingBeacons$Council", "leastFoolingSet", "(I)I"⟩ ⟨"LyingBeacons$Council", "leastFoolingSet", "(I)I"⟩ ∈ jm_tbl := jm_in (List.mem_of_getElem? (i := 537) (by decide +kernel)) rfl
def mY_Co_foolingSets : jm_Y := (⟨"LyingBeacons$Council", "foolingSets", "(I)I"⟩, prog_2_method_5_code, 5, some .int, { frames := 3, cells := 0, slots := 0, locals := 66 }, none)
theorem cw_Co_foolingSets : Cond.code (jm_nm mY_Co_foolingSets) (jm_cd mY_Co_foolingSets) (jm_ml mY_Co_foolingSets) (jm_rt mY_Co_foolingSets) ∈ jm_tbl := jm_in (List.mem_of_getElem? (i := 530) (by decide +kernel)) rfl
theorem ok_Co_foolingSets : jm_ok mY_Co_foolingSets 1 := ⟨by decide, rfl, cw_Co_foolingSets, ini_Co, by decide +kernel⟩
theorem l0_Co_foolingSets__JI_bitCount : jm_l0 mY_Co_foolingSets mY_JI_bitCount := ⟨⟨Nat.le_of_ble_eq_true rfl, Nat.le_of_ble_eq_true rfl⟩, rfl, rfl⟩
theorem l0_Co_foolingSets__Co_nextSet : jm_l0 mY_Co_foolingSets mY_Co_nextSet := ⟨⟨Nat.le_of_ble_eq_true rfl, Nat.le_of_ble_eq_true rfl⟩, rfl, rfl⟩
theorem l0_Co_foolingSets__Co_isFooledBy : jm_l0 mY_Co_foolingSets mY_Co_isFooledBy := ⟨⟨Nat.le_of_ble_eq_true rfl, Nat.le_of_ble_eq_true rfl⟩, rfl, rfl⟩
theorem l0_X_falseFor__Co_foolingSets : jm_l0 mY_X_falseFor mY_Co_foolingSets := ⟨⟨Nat.le_of_ble_eq_true rfl, Nat.le_of_ble_eq_true rfl⟩, rfl, rfl⟩
theorem ml_X_161 : Cond.methodLink "LyingBeacons" 161 ⟨"LyingBeacons$Council", "foolingSets", "(I)I"⟩ ∈ jm_tbl := jm_in (List.mem_of_getElem? (i := 527) (by decide +kernel)) rfl
theorem im_Co_foolingSets : Cond.instanceMethod ⟨"LyingBeacons$Council", "foolingSets", "(I)I"⟩ ∈ jm_tbl := jm_in (List.mem_of_getElem? (i := 528) (by decide +kernel)) rfl
theorem se_Co_foolingSets : Cond.selects "LyingBeacons$Council" ⟨"LyingBeacons$Council", "foolingSets", "(I)I"⟩ ⟨"LyingBeacons$Council", "foolingSets", "(I)I"⟩ ∈ jm_tbl := jm_in (List.mem_of_getElem? (i := 529) (by decide +kernel)) rfl
theorem ml_X_158 : Cond.methodLink "LyingBeacons" 158 ⟨"LyingBeacons", "isNumberOfLiars", "(I)Z"⟩ ∈ jm_tbl := jm_in (List.mem_of_getElem? (i := 524) (by decide +kernel)) rfl
theorem sm_X_isNumberOfLiars : Cond.static ⟨"LyingBeacons", "isNumberOfLiars", "(I)Z"⟩ ∈ jm_tbl := jm_in (List.mem_of_getElem? (i := 525) (by decide +kernel)) rfl
theorem l0_Law__X_falseFor (L : Nat) (xs : Nat → Int32) : jm_l0 (mY_Law L xs) mY_X_falseFor := ⟨⟨Nat.le_of_ble_eq_true rfl, Nat.le_of_ble_eq_true rfl⟩, rfl, rfl⟩
def mY_Z_falseFor : jm_Y := (⟨"LyingBeaconsModel", "falseFor", "(II)I"⟩, prog_11_method_43_code, 7, some .int, { frames := 4, cells := 0, slots := 0, locals := 92 }, none)
theorem cw_Z_falseFor : Cond.code (jm_nm mY_Z_falseFor) (jm_cd mY_Z_falseFor) (jm_ml mY_Z_falseFor) (jm_rt mY_Z_falseFor) ∈ jm_tbl := jm_in (List.mem_of_getElem? (i := 1021) (by decide +kernel)) rfl
theorem ok_Z_falseFor : jm_ok mY_Z_falseFor 2 := ⟨by decide, rfl, cw_Z_falseFor, ini_Z, by decide +kernel⟩
theorem l0_Z_falseFor__Z_in : jm_l0 mY_Z_falseFor mY_Z_in := ⟨⟨Nat.le_of_ble_eq_true rfl, Nat.le_of_ble_eq_true rfl⟩, rfl, rfl⟩
theorem l0_Z_falseFor__Z_ear : jm_l0 mY_Z_falseFor mY_Z_ear := ⟨⟨Nat.le_of_ble_eq_true rfl, Nat.le_of_ble_eq_true rfl⟩, rfl, rfl⟩
theorem l0_Z_falseFor__Z_asTold : jm_l0 mY_Z_falseFor mY_Z_asTold := ⟨⟨Nat.le_of_ble_eq_true rfl, Nat.le_of_ble_eq_true rfl⟩, rfl, rfl⟩
theorem l0_Z_falseFor__Z_isFalse : jm_l0 mY_Z_falseFor mY_Z_isFalse := ⟨⟨Nat.le_of_ble_eq_true rfl, Nat.le_of_ble_eq_true rfl⟩, rfl, rfl⟩
theorem l0_Z_falseFor__Z_men : jm_l0 mY_Z_falseFor mY_Z_men := ⟨⟨Nat.le_of_ble_eq_true rfl, Nat.le_of_ble_eq_true rfl⟩, rfl, rfl⟩
def mY_Z_bits : jm_Y := (⟨"LyingBeaconsModel", "bits", "(I)I"⟩, prog_11_method_4_code, 3, some .int, { frames := 0, cells := 0, slots := 0, locals := 0 }, none)
theorem cw_Z_bits : Cond.code (jm_nm mY_Z_bits) (jm_cd mY_Z_bits) (jm_ml mY_Z_bits) (jm_rt mY_Z_bits) ∈ jm_tbl := jm_in (List.mem_of_getElem? (i := 1024) (by decide +kernel)) rfl
theorem ok_Z_bits : jm_ok mY_Z_bits 1 := ⟨by decide, rfl, cw_Z_bits, ini_Z, by decide +kernel⟩
theorem l0_Z_falseFor__Z_bits : jm_l0 mY_Z_falseFor mY_Z_bits := ⟨⟨Nat.le_of_ble_eq_true rfl, Nat.le_of_ble_eq_true rfl⟩, rfl, rfl⟩
theorem ml_Z_212 : Cond.methodLink "LyingBeaconsModel" 212 ⟨"LyingBeaconsModel", "bits", "(I)I"⟩ ∈ jm_tbl := jm_in (List.mem_of_getElem? (i := 1022) (by decide +kernel)) rfl
theorem sm_Z_bits : Cond.static ⟨"LyingBeaconsModel", "bits", "(I)I"⟩ ∈ jm_tbl := jm_in (List.mem_of_getElem? (i := 1023) (by decide +kernel)) rfl
theorem l0_Law__Z_falseFor (L : Nat) (xs : Nat → Int32) : jm_l0 (mY_Law L xs) mY_Z_falseFor := ⟨⟨Nat.le_of_ble_eq_true rfl, Nat.le_of_ble_eq_true rfl⟩, rfl, rfl⟩
theorem ml_Law_67 : Cond.methodLink "LyingBeaconsLaw" 67 ⟨"LyingBeaconsModel", "falseFor", "(II)I"⟩ ∈ jm_tbl := jm_in (List.mem_of_getElem? (i := 1018) (by decide +kernel)) rfl
theorem im_Z_falseFor : Cond.instanceMethod ⟨"LyingBeaconsModel", "falseFor", "(II)I"⟩ ∈ jm_tbl := jm_in (List.mem_of_getElem? (i := 1019) (by decide +kernel)) rfl
theorem se_Z_falseFor : Cond.selects "LyingBeaconsModel" ⟨"LyingBeaconsModel", "falseFor", "(II)I"⟩ ⟨"LyingBeaconsModel", "falseFor", "(II)I"⟩ ∈ jm_tbl := jm_in (List.mem_of_getElem? (i := 1020) (by decide +kernel)) rfl
theorem ml_Law_64 : Cond.methodLink "LyingBeaconsLaw" 64 ⟨"LyingBeacons", "falseFor", "(II)I"⟩ ∈ jm_tbl := jm_in (List.mem_of_getElem? (i := 520) (by decide +kernel)) rfl
theorem im_X_falseFor : Cond.instanceMethod ⟨"LyingBeacons", "falseFor", "(II)I"⟩ ∈ jm_tbl := jm_in (List.mem_of_getElem? (i := 521) (by decide +kernel)) rfl
theorem se_X_falseFor : Cond.selects "LyingBeacons" ⟨"LyingBeacons", "falseFor", "(II)I"⟩ ⟨"LyingBeacons", "falseFor", "(II)I"⟩ ∈ jm_tbl := jm_in (List.mem_of_getElem? (i := 522) (by decide +kernel)) rfl
def mY_X_trueBy : jm_Y := (⟨"LyingBeacons", "trueBy", "(II)I"⟩, prog_1_method_14_code, 3, some .int, { frames := 4, cells := 0, slots := 0, locals := 93 }, none)
theorem cw_X_trueBy : Cond.code (jm_nm mY_X_trueBy) (jm_cd mY_X_trueBy) (jm_ml mY_X_trueBy) (jm_rt mY_X_trueBy) ∈ jm_tbl := jm_in (List.mem_of_getElem? (i := 543) (by decide +kernel)) rfl
theorem ok_X_trueBy : jm_ok mY_X_trueBy 2 := ⟨by decide, rfl, cw_X_trueBy, ini_X, by decide +kernel⟩
theorem l0_X_trueBy__Ne_isHill : jm_l0 mY_X_trueBy mY_Ne_isHill := ⟨⟨Nat.le_of_ble_eq_true rfl, Nat.le_of_ble_eq_true rfl⟩, rfl, rfl⟩
theorem l0_X_trueBy__Ne_folk : jm_l0 mY_X_trueBy mY_Ne_folk := ⟨⟨Nat.le_of_ble_eq_true rfl, Nat.le_of_ble_eq_true rfl⟩, rfl, rfl⟩
theorem l0_X_trueBy__Ne_hasEar : jm_l0 mY_X_trueBy mY_Ne_hasEar := ⟨⟨Nat.le_of_ble_eq_true rfl, Nat.le_of_ble_eq_true rfl⟩, rfl, rfl⟩
theorem l0_X_trueBy__Co_study : jm_l0 mY_X_trueBy mY_Co_study := ⟨⟨Nat.le_of_ble_eq_true rfl, Nat.le_of_ble_eq_true rfl⟩, rfl, rfl⟩
def mY_Co_trueMinute : jm_Y := (⟨"LyingBeacons$Council", "trueMinute", "(II)I"⟩, prog_2_method_8_code, 3, some .int, { frames := 3, cells := 0, slots := 0, locals := 71 }, none)
theorem cw_Co_trueMinute : Cond.code (jm_nm mY_Co_trueMinute) (jm_cd mY_Co_trueMinute) (jm_ml mY_Co_trueMinute) (jm_rt mY_Co_trueMinute) ∈ jm_tbl := jm_in (List.mem_of_getElem? (i := 547) (by decide +kernel)) rfl
theorem ok_Co_trueMinute : jm_ok mY_Co_trueMinute 2 := ⟨by decide, rfl, cw_Co_trueMinute, ini_Co, by decide +kernel⟩
def mY_Co_spread : jm_Y := (⟨"LyingBeacons$Council", "spread", "(III)I"⟩, prog_2_method_11_code, 9, some .int, { frames := 2, cells := 0, slots := 0, locals := 43 }, none)
theorem cw_Co_spread : Cond.code (jm_nm mY_Co_spread) (jm_cd mY_Co_spread) (jm_ml mY_Co_spread) (jm_rt mY_Co_spread) ∈ jm_tbl := jm_in (List.mem_of_getElem? (i := 551) (by decide +kernel)) rfl
theorem ok_Co_spread : jm_ok mY_Co_spread 3 := ⟨by decide, rfl, cw_Co_spread, ini_Co, by decide +kernel⟩
theorem mr_154_48_8 : mr_154 48 8 = some 52 := by decide
def mY_Co_ruleHeld : jm_Y := (⟨"LyingBeacons$Council", "ruleHeld", "(II)Z"⟩, prog_2_method_12_code, 4, some .boolean, { frames := 1, cells := 0, slots := 0, locals := 20 }, none)
theorem cw_Co_ruleHeld : Cond.code (jm_nm mY_Co_ruleHeld) (jm_cd mY_Co_ruleHeld) (jm_ml mY_Co_ruleHeld) (jm_rt mY_Co_ruleHeld) ∈ jm_tbl := jm_in (List.mem_of_getElem? (i := 555) (by decide +kernel)) rfl
theorem ok_Co_ruleHeld : jm_ok mY_Co_ruleHeld 2 := ⟨by decide, rfl, cw_Co_ruleHeld, ini_Co, by decide +kernel⟩
theorem l0_Co_ruleHeld__JI_bitCount : jm_l0 mY_Co_ruleHeld mY_JI_bitCount := ⟨⟨Nat.le_of_ble_eq_true rfl, Nat.le_of_ble_eq_true rfl⟩, rfl, rfl⟩
theorem le_52_78 : 52 ≤ 78 := by decide
theorem l0_Co_spread__Co_ruleHeld : jm_l0 mY_Co_spread mY_Co_ruleHeld := ⟨⟨Nat.le_of_ble_eq_true rfl, Nat.le_of_ble_eq_true rfl⟩, rfl, rfl⟩
theorem ml_Co_78 : Cond.methodLink "LyingBeacons$Council" 78 ⟨"LyingBeacons$Council", "ruleHeld", "(II)Z"⟩ ∈ jm_tbl := jm_in (List.mem_of_getElem? (i := 552) (by decide +kernel)) rfl
theorem im_Co_ruleHeld : Cond.instanceMethod ⟨"LyingBeacons$Council", "ruleHeld", "(II)Z"⟩ ∈ jm_tbl := jm_in (List.mem_of_getElem? (i := 554) (by decide +kernel)) rfl
theorem se_Co_ruleHeld : Cond.selects "LyingBeacons$Council" ⟨"LyingBeacons$Council", "ruleHeld", "(II)Z"⟩ ⟨"LyingBeacons$Council", "ruleHeld", "(II)Z"⟩ ∈ jm_tbl := jm_in (List.mem_of_getElem? (i := 18) (by decide +kernel)) rfl
theorem l0_Co_trueMinute__Co_spread : jm_l0 mY_Co_trueMinute mY_Co_spread := ⟨⟨Nat.le_of_ble_eq_true rfl, Nat.le_of_ble_eq_true rfl⟩, rfl, rfl⟩
theorem ml_Co_74 : Cond.methodLink "LyingBeacons$Council" 74 ⟨"LyingBeacons$Council", "spread", "(III)I"⟩ ∈ jm_tbl := jm_in (List.mem_of_getElem? (i := 548) (by decide +kernel)) rfl
theorem im_Co_spread : Cond.instanceMethod ⟨"LyingBeacons$Council", "spread", "(III)I"⟩ ∈ jm_tbl := jm_in (List.mem_of_getElem? (i := 550) (by decide +kernel)) rfl
theorem se_Co_spread : Cond.selects "LyingBeacons$Council" ⟨"LyingBeacons$Council", "spread", "(III)I"⟩ ⟨"LyingBeacons$Council", "spread", "(III)I"⟩ ∈ jm_tbl := jm_in (List.mem_of_getElem? (i := 17) (by decide +kernel)) rfl
theorem l0_X_trueBy__Co_trueMinute : jm_l0 mY_X_trueBy mY_Co_trueMinute := ⟨⟨Nat.le_of_ble_eq_true rfl, Nat.le_of_ble_eq_true rfl⟩, rfl, rfl⟩
theorem ml_X_170 : Cond.methodLink "LyingBeacons" 170 ⟨"LyingBeacons$Council", "trueMinute", "(II)I"⟩ ∈ jm_tbl := jm_in (List.mem_of_getElem? (i := 544) (by decide +kernel)) rfl
theorem im_Co_trueMinute : Cond.instanceMethod ⟨"LyingBeacons$Council", "trueMinute", "(II)I"⟩ ∈ jm_tbl := jm_in (List.mem_of_getElem? (i := 545) (by decide +kernel)) rfl
theorem se_Co_trueMinute : Cond.selects "LyingBeacons$Council" ⟨"LyingBeacons$Council", "trueMinute", "(II)I"⟩ ⟨"LyingBeacons$Council", "trueMinute", "(II)I"⟩ ∈ jm_tbl := jm_in (List.mem_of_getElem? (i := 546) (by decide +kernel)) rfl
theorem l0_Law__X_trueBy (L : Nat) (xs : Nat → Int32) : jm_l0 (mY_Law L xs) mY_X_trueBy := ⟨⟨Nat.le_of_ble_eq_true rfl, Nat.le_of_ble_eq_true rfl⟩, rfl, rfl⟩
def mY_Z_trueBy : jm_Y := (⟨"LyingBeaconsModel", "trueBy", "(II)I"⟩, prog_11_method_45_code, 4, some .int, { frames := 4, cells := 0, slots := 0, locals := 94 }, none)
theorem cw_Z_trueBy : Cond.code (jm_nm mY_Z_trueBy) (jm_cd mY_Z_trueBy) (jm_ml mY_Z_trueBy) (jm_rt mY_Z_trueBy) ∈ jm_tbl := jm_in (List.mem_of_getElem? (i := 1028) (by decide +kernel)) rfl
theorem ok_Z_trueBy : jm_ok mY_Z_trueBy 2 := ⟨by decide, rfl, cw_Z_trueBy, ini_Z, by decide +kernel⟩
theorem l0_Z_trueBy__Z_asTold : jm_l0 mY_Z_trueBy mY_Z_asTold := ⟨⟨Nat.le_of_ble_eq_true rfl, Nat.le_of_ble_eq_true rfl⟩, rfl, rfl⟩
theorem l0_Z_trueBy__Z_isHill : jm_l0 mY_Z_trueBy mY_Z_isHill := ⟨⟨Nat.le_of_ble_eq_true rfl, Nat.le_of_ble_eq_true rfl⟩, rfl, rfl⟩
theorem l0_Z_trueBy__Z_men : jm_l0 mY_Z_trueBy mY_Z_men := ⟨⟨Nat.le_of_ble_eq_true rfl, Nat.le_of_ble_eq_true rfl⟩, rfl, rfl⟩
theorem l0_Z_trueBy__Z_has : jm_l0 mY_Z_trueBy mY_Z_has := ⟨⟨Nat.le_of_ble_eq_true rfl, Nat.le_of_ble_eq_true rfl⟩, rfl, rfl⟩
theorem l0_Z_trueBy__Z_ear : jm_l0 mY_Z_trueBy mY_Z_ear := ⟨⟨Nat.le_of_ble_eq_true rfl, Nat.le_of_ble_eq_true rfl⟩, rfl, rfl⟩
def mY_Z_alarmBy : jm_Y := (⟨"LyingBeaconsModel", "alarmBy", "(II)I"⟩, prog_11_method_44_code, 4, some .int, { frames := 3, cells := 0, slots := 0, locals := 71 }, none)
theorem cw_Z_alarmBy : Cond.code (jm_nm mY_Z_alarmBy) (jm_cd mY_Z_alarmBy) (jm_ml mY_Z_alarmBy) (jm_rt mY_Z_alarmBy) ∈ jm_tbl := jm_in (List.mem_of_getElem? (i := 1032) (by decide +kernel)) rfl
theorem ok_Z_alarmBy : jm_ok mY_Z_alarmBy 2 := ⟨by decide, rfl, cw_Z_alarmBy, ini_Z, by decide +kernel⟩
theorem l0_Z_alarmBy__Z_kindle : jm_l0 mY_Z_alarmBy mY_Z_kindle := ⟨⟨Nat.le_of_ble_eq_true rfl, Nat.le_of_ble_eq_true rfl⟩, rfl, rfl⟩
theorem l0_Z_alarmBy__Z_spread : jm_l0 mY_Z_alarmBy mY_Z_spread := ⟨⟨Nat.le_of_ble_eq_true rfl, Nat.le_of_ble_eq_true rfl⟩, rfl, rfl⟩
theorem l0_Z_alarmBy__Z_ear : jm_l0 mY_Z_alarmBy mY_Z_ear := ⟨⟨Nat.le_of_ble_eq_true rfl, Nat.le_of_ble_eq_true rfl⟩, rfl, rfl⟩
theorem l0_Z_alarmBy__Z_together : jm_l0 mY_Z_alarmBy mY_Z_together := ⟨⟨Nat.le_of_ble_eq_true rfl, Nat.le_of_ble_eq_true rfl⟩, rfl, rfl⟩
theorem l0_Z_alarmBy__Z_takes : jm_l0 mY_Z_alarmBy mY_Z_takes := ⟨⟨Nat.le_of_ble_eq_true rfl, Nat.le_of_ble_eq_true rfl⟩, rfl, rfl⟩
theorem l0_Z_trueBy__Z_alarmBy : jm_l0 mY_Z_trueBy mY_Z_alarmBy := ⟨⟨Nat.le_of_ble_eq_true rfl, Nat.le_of_ble_eq_true rfl⟩, rfl, rfl⟩
theorem ml_Z_215 : Cond.methodLink "LyingBeaconsModel" 215 ⟨"LyingBeaconsModel", "alarmBy", "(II)I"⟩ ∈ jm_tbl := jm_in (List.mem_of_getElem? (i := 1029) (by decide +kernel)) rfl
theorem im_Z_alarmBy : Cond.instanceMethod ⟨"LyingBeaconsModel", "alarmBy", "(II)I"⟩ ∈ jm_tbl := jm_in (List.mem_of_getElem? (i := 1031) (by decide +kernel)) rfl
theorem se_Z_alarmBy : Cond.selects "LyingBeaconsModel" ⟨"LyingBeaconsModel", "alarmBy", "(II)I"⟩ ⟨"LyingBeaconsModel", "alarmBy", "(II)I"⟩ ∈ jm_tbl := jm_in (List.mem_of_getElem? (i := 51) (by decide +kernel)) rfl
theorem l0_Law__Z_trueBy (L : Nat) (xs : Nat → Int32) : jm_l0 (mY_Law L xs) mY_Z_trueBy := ⟨⟨Nat.le_of_ble_eq_true rfl, Nat.le_of_ble_eq_true rfl⟩, rfl, rfl⟩
theorem ml_Law_71 : Cond.methodLink "LyingBeaconsLaw" 71 ⟨"LyingBeaconsModel", "trueBy", "(II)I"⟩ ∈ jm_tbl := jm_in (List.mem_of_getElem? (i := 1025) (by decide +kernel)) rfl
theorem im_Z_trueBy : Cond.instanceMethod ⟨"LyingBeaconsModel", "trueBy", "(II)I"⟩ ∈ jm_tbl := jm_in (List.mem_of_getElem? (i := 1026) (by decide +kernel)) rfl
theorem se_Z_trueBy : Cond.selects "LyingBeaconsModel" ⟨"LyingBeaconsModel", "trueBy", "(II)I"⟩ ⟨"LyingBeaconsModel", "trueBy", "(II)I"⟩ ∈ jm_tbl := jm_in (List.mem_of_getElem? (i := 1027) (by decide +kernel)) rfl
theorem ml_Law_68 : Cond.methodLink "LyingBeaconsLaw" 68 ⟨"LyingBeacons", "trueBy", "(II)I"⟩ ∈ jm_tbl := jm_in (List.mem_of_getElem? (i := 540) (by decide +kernel)) rfl
theorem im_X_trueBy : Cond.instanceMethod ⟨"LyingBeacons", "trueBy", "(II)I"⟩ ∈ jm_tbl := jm_in (List.mem_of_getElem? (i := 541) (by decide +kernel)) rfl
theorem se_X_trueBy : Cond.selects "LyingBeacons" ⟨"LyingBeacons", "trueBy", "(II)I"⟩ ⟨"LyingBeacons", "trueBy", "(II)I"⟩ ∈ jm_tbl := jm_in (List.mem_of_getElem? (i := 542) (by decide +kernel)) rfl
def mY_X_late : jm_Y := (⟨"LyingBeacons", "late", "(II)I"⟩, prog_1_method_15_code, 3, some .int, { frames := 5, cells := 0, slots := 0, locals := 125 }, none)
theorem cw_X_late : Cond.code (jm_nm mY_X_late) (jm_cd mY_X_late) (jm_ml mY_X_late) (jm_rt mY_X_late) ∈ jm_tbl := jm_in (List.mem_of_getElem? (i := 559) (by decide +kernel)) rfl
theorem ok_X_late : jm_ok mY_X_late 2 := ⟨by decide, rfl, cw_X_late, ini_X, by decide +kernel⟩
theorem l0_X_late__X_isNumberOfLiars : jm_l0 mY_X_late mY_X_isNumberOfLiars := ⟨⟨Nat.le_of_ble_eq_true rfl, Nat.le_of_ble_eq_true rfl⟩, rfl, rfl⟩
theorem l0_X_late__Ne_hasEar : jm_l0 mY_X_late mY_Ne_hasEar := ⟨⟨Nat.le_of_ble_eq_true rfl, Nat.le_of_ble_eq_true rfl⟩, rfl, rfl⟩
theorem l0_X_late__Co_study : jm_l0 mY_X_late mY_Co_study := ⟨⟨Nat.le_of_ble_eq_true rfl, Nat.le_of_ble_eq_true rfl⟩, rfl, rfl⟩
def mY_Co_latestWithOneSightGone : jm_Y := (⟨"LyingBeacons$Council", "latestWithOneSightGone", "(I)I"⟩, prog_2_method_14_code, 7, some .int, { frames := 4, cells := 0, slots := 0, locals := 99 }, none)
theorem cw_Co_latestWithOneSightGone : Cond.code (jm_nm mY_Co_latestWithOneSightGone) (jm_cd mY_Co_latestWithOneSightGone) (jm_ml mY_Co_latestWithOneSightGone) (jm_rt mY_Co_latestWithOneSightGone) ∈ jm_tbl := jm_in (List.mem_of_getElem? (i := 573) (by decide +kernel)) rfl
theorem ok_Co_latestWithOneSightGone : jm_ok mY_Co_latestWithOneSightGone 1 := ⟨by decide, rfl, cw_Co_latestWithOneSightGone, ini_Co, by decide +kernel⟩
def mY_Co_latest : jm_Y := (⟨"LyingBeacons$Council", "latest", "(I)I"⟩, prog_2_method_13_code, 9, some .int, { frames := 3, cells := 0, slots := 0, locals := 71 }, none)
theorem cw_Co_latest : Cond.code (jm_nm mY_Co_latest) (jm_cd mY_Co_latest) (jm_ml mY_Co_latest) (jm_rt mY_Co_latest) ∈ jm_tbl := jm_in (List.mem_of_getElem? (i := 563) (by decide +kernel)) rfl
theorem ok_Co_latest : jm_ok mY_Co_latest 1 := ⟨by decide, rfl, cw_Co_latest, ini_Co, by decide +kernel⟩
theorem l0_Co_latest__JI_bitCount : jm_l0 mY_Co_latest mY_JI_bitCount := ⟨⟨Nat.le_of_ble_eq_true rfl, Nat.le_of_ble_eq_true rfl⟩, rfl, rfl⟩
theorem ini_JM : Cond.initialized "java/lang/Math" ∈ jm_tbl := jm_in (List.mem_of_getElem? (i := 73) (by decide +kernel)) rfl
theorem mm_min : Cond.code Lib.Math.min.name Lib.Math.min.code 2 (some .int) ∈ jm_tbl := jm_in (List.mem_of_getElem? (i := 566) (by decide +kernel)) rfl
theorem ml_Co_82 : Cond.methodLink "LyingBeacons$Council" 82 ⟨"java/lang/Math", "min", "(II)I"⟩ ∈ jm_tbl := jm_in (List.mem_of_getElem? (i := 564) (by decide +kernel)) rfl
theorem sm_JM_min : Cond.static ⟨"java/lang/Math", "min", "(II)I"⟩ ∈ jm_tbl := jm_in (List.mem_of_getElem? (i := 565) (by decide +kernel)) rfl
theorem l0_Co_latest__Co_nextSet : jm_l0 mY_Co_latest mY_Co_nextSet := ⟨⟨Nat.le_of_ble_eq_true rfl, Nat.le_of_ble_eq_true rfl⟩, rfl, rfl⟩
theorem l0_Co_latest__Co_spread : jm_l0 mY_Co_latest mY_Co_spread := ⟨⟨Nat.le_of_ble_eq_true rfl, Nat.le_of_ble_eq_true rfl⟩, rfl, rfl⟩
theorem mm_max : Cond.code Lib.Math.max.name Lib.Math.max.code 2 (some .int) ∈ jm_tbl := jm_in (List.mem_of_getElem? (i := 569) (by decide +kernel)) rfl
theorem ml_Co_87 : Cond.methodLink "LyingBeacons$Council" 87 ⟨"java/lang/Math", "max", "(II)I"⟩ ∈ jm_tbl := jm_in (List.mem_of_getElem? (i := 567) (by decide +kernel)) rfl
theorem sm_JM_max : Cond.static ⟨"java/lang/Math", "max", "(II)I"⟩ ∈ jm_tbl := jm_in (List.mem_of_getElem? (i := 568) (by decide +kernel)) rfl
theorem l0_Co_latestWithOneSightGone__Co_latest : jm_l0 mY_Co_latestWithOneSightGone mY_Co_latest := ⟨⟨Nat.le_of_ble_eq_true rfl, Nat.le_of_ble_eq_true rfl⟩, rfl, rfl⟩
theorem ml_Co_94 : Cond.methodLink "LyingBeacons$Council" 94 ⟨"LyingBeacons$Council", "latest", "(I)I"⟩ ∈ jm_tbl := jm_in (List.mem_of_getElem? (i := 578) (by decide +kernel)) rfl
theorem im_Co_latest : Cond.instanceMethod ⟨"LyingBeacons$Council", "latest", "(I)I"⟩ ∈ jm_tbl := jm_in (List.mem_of_getElem? (i := 561) (by decide +kernel)) rfl
theorem se_Co_latest : Cond.selects "LyingBeacons$Council" ⟨"LyingBeacons$Council", "latest", "(I)I"⟩ ⟨"LyingBeacons$Council", "latest", "(I)I"⟩ ∈ jm_tbl := jm_in (List.mem_of_getElem? (i := 562) (by decide +kernel)) rfl
def mY_Co_turnSight : jm_Y := (⟨"LyingBeacons$Council", "turnSight", "(II)V"⟩, prog_2_method_15_code, 3, none, { frames := 0, cells := 0, slots := 0, locals := 0 }, none)
theorem cw_Co_turnSight : Cond.code (jm_nm mY_Co_turnSight) (jm_cd mY_Co_turnSight) (jm_ml mY_Co_turnSight) (jm_rt mY_Co_turnSight) ∈ jm_tbl := jm_in (List.mem_of_getElem? (i := 577) (by decide +kernel)) rfl
theorem ok_Co_turnSight : jm_ok mY_Co_turnSight 2 := ⟨by decide, rfl, cw_Co_turnSight, ini_Co, by decide +kernel⟩
theorem l0_Co_latestWithOneSightGone__Co_turnSight : jm_l0 mY_Co_latestWithOneSightGone mY_Co_turnSight := ⟨⟨Nat.le_of_ble_eq_true rfl, Nat.le_of_ble_eq_true rfl⟩, rfl, rfl⟩
theorem ml_Co_90 : Cond.methodLink "LyingBeacons$Council" 90 ⟨"LyingBeacons$Council", "turnSight", "(II)V"⟩ ∈ jm_tbl := jm_in (List.mem_of_getElem? (i := 574) (by decide +kernel)) rfl
theorem im_Co_turnSight : Cond.instanceMethod ⟨"LyingBeacons$Council", "turnSight", "(II)V"⟩ ∈ jm_tbl := jm_in (List.mem_of_getElem? (i := 576) (by decide +kernel)) rfl
theorem se_Co_turnSight : Cond.selects "LyingBeacons$Council" ⟨"LyingBeacons$Council", "turnSight", "(II)V"⟩ ⟨"LyingBeacons$Council", "turnSight", "(II)V"⟩ ∈ jm_tbl := jm_in (List.mem_of_getElem? (i := 19) (by decide +kernel)) rfl
theorem l0_X_late__Co_latestWithOneSightGone : jm_l0 mY_X_late mY_Co_latestWithOneSightGone := ⟨⟨Nat.le_of_ble_eq_true rfl, Nat.le_of_ble_eq_true rfl⟩, rfl, rfl⟩
theorem ml_X_177 : Cond.methodLink "LyingBeacons" 177 ⟨"LyingBeacons$Council", "latestWithOneSightGone", "(I)I"⟩ ∈ jm_tbl := jm_in (List.mem_of_getElem? (i := 570) (by decide +kernel)) rfl
theorem im_Co_latestWithOneSightGone : Cond.instanceMethod ⟨"LyingBeacons$Council", "latestWithOneSightGone", "(I)I"⟩ ∈ jm_tbl := jm_in (List.mem_of_getElem? (i := 571) (by decide +kernel)) rfl
theorem se_Co_latestWithOneSightGone : Cond.selects "LyingBeacons$Council" ⟨"LyingBeacons$Council", "latestWithOneSightGone", "(I)I"⟩ ⟨"LyingBeacons$Council", "latestWithOneSightGone", "(I)I"⟩ ∈ jm_tbl := jm_in (List.mem_of_getElem? (i := 572) (by decide +kernel)) rfl
theorem l0_X_late__Co_latest : jm_l0 mY_X_late mY_Co_latest := ⟨⟨Nat.le_of_ble_eq_true rfl, Nat.le_of_ble_eq_true rfl⟩, rfl, rfl⟩
theorem ml_X_174 : Cond.methodLink "LyingBeacons" 174 ⟨"LyingBeacons$Council", "latest", "(I)I"⟩ ∈ jm_tbl := jm_in (List.mem_of_getElem? (i := 560) (by decide +kernel)) rfl
theorem l0_Law__X_late (L : Nat) (xs : Nat → Int32) : jm_l0 (mY_Law L xs) mY_X_late := ⟨⟨Nat.le_of_ble_eq_true rfl, Nat.le_of_ble_eq_true rfl⟩, rfl, rfl⟩
def mY_Z_late : jm_Y := (⟨"LyingBeaconsModel", "late", "(II)I"⟩, prog_11_method_48_code, 4, some .int, { frames := 6, cells := 0, slots := 0, locals := 147 }, none)
theorem cw_Z_late : Cond.code (jm_nm mY_Z_late) (jm_cd mY_Z_late) (jm_ml mY_Z_late) (jm_rt mY_Z_late) ∈ jm_tbl := jm_in (List.mem_of_getElem? (i := 1036) (by decide +kernel)) rfl
theorem ok_Z_late : jm_ok mY_Z_late 2 := ⟨by decide, rfl, cw_Z_late, ini_Z, by decide +kernel⟩
theorem l0_Z_late__Z_in : jm_l0 mY_Z_late mY_Z_in := ⟨⟨Nat.le_of_ble_eq_true rfl, Nat.le_of_ble_eq_true rfl⟩, rfl, rfl⟩
theorem l0_Z_late__Z_ear : jm_l0 mY_Z_late mY_Z_ear := ⟨⟨Nat.le_of_ble_eq_true rfl, Nat.le_of_ble_eq_true rfl⟩, rfl, rfl⟩
theorem l0_Z_late__Z_asTold : jm_l0 mY_Z_late mY_Z_asTold := ⟨⟨Nat.le_of_ble_eq_true rfl, Nat.le_of_ble_eq_true rfl⟩, rfl, rfl⟩
def mY_Z_lateOf : jm_Y := (⟨"LyingBeaconsModel", "lateOf", "(II)I"⟩, prog_11_method_47_code, 7, some .int, { frames := 5, cells := 0, slots := 0, locals := 121 }, none)
theorem cw_Z_lateOf : Cond.code (jm_nm mY_Z_lateOf) (jm_cd mY_Z_lateOf) (jm_ml mY_Z_lateOf) (jm_rt mY_Z_lateOf) ∈ jm_tbl := jm_in (List.mem_of_getElem? (i := 1040) (by decide +kernel)) rfl
theorem ok_Z_lateOf : jm_ok mY_Z_lateOf 2 := ⟨by decide, rfl, cw_Z_lateOf, ini_Z, by decide +kernel⟩
def mY_Z_latest : jm_Y := (⟨"LyingBeaconsModel", "latest", "(I)I"⟩, prog_11_method_46_code, 8, some .int, { frames := 4, cells := 0, slots := 0, locals := 94 }, none)
theorem cw_Z_latest : Cond.code (jm_nm mY_Z_latest) (jm_cd mY_Z_latest) (jm_ml mY_Z_latest) (jm_rt mY_Z_latest) ∈ jm_tbl := jm_in (List.mem_of_getElem? (i := 1044) (by decide +kernel)) rfl
theorem ok_Z_latest : jm_ok mY_Z_latest 1 := ⟨by decide, rfl, cw_Z_latest, ini_Z, by decide +kernel⟩
theorem l0_Z_latest__Z_men : jm_l0 mY_Z_latest mY_Z_men := ⟨⟨Nat.le_of_ble_eq_true rfl, Nat.le_of_ble_eq_true rfl⟩, rfl, rfl⟩
theorem l0_Z_latest__Z_bits : jm_l0 mY_Z_latest mY_Z_bits := ⟨⟨Nat.le_of_ble_eq_true rfl, Nat.le_of_ble_eq_true rfl⟩, rfl, rfl⟩
theorem l0_Z_latest__Z_alarmBy : jm_l0 mY_Z_latest mY_Z_alarmBy := ⟨⟨Nat.le_of_ble_eq_true rfl, Nat.le_of_ble_eq_true rfl⟩, rfl, rfl⟩
theorem l0_Z_lateOf__Z_latest : jm_l0 mY_Z_lateOf mY_Z_latest := ⟨⟨Nat.le_of_ble_eq_true rfl, Nat.le_of_ble_eq_true rfl⟩, rfl, rfl⟩
theorem ml_Z_219 : Cond.methodLink "LyingBeaconsModel" 219 ⟨"LyingBeaconsModel", "latest", "(I)I"⟩ ∈ jm_tbl := jm_in (List.mem_of_getElem? (i := 1041) (by decide +kernel)) rfl
theorem im_Z_latest : Cond.instanceMethod ⟨"LyingBeaconsModel", "latest", "(I)I"⟩ ∈ jm_tbl := jm_in (List.mem_of_getElem? (i := 1043) (by decide +kernel)) rfl
theorem se_Z_latest : Cond.selects "LyingBeaconsModel" ⟨"LyingBeaconsModel", "latest", "(I)I"⟩ ⟨"LyingBeaconsModel", "latest", "(I)I"⟩ ∈ jm_tbl := jm_in (List.mem_of_getElem? (i := 53) (by decide +kernel)) rfl
theorem l0_Z_lateOf__Z_has : jm_l0 mY_Z_lateOf mY_Z_has := ⟨⟨Nat.le_of_ble_eq_true rfl, Nat.le_of_ble_eq_true rfl⟩, rfl, rfl⟩
theorem l0_Z_late__Z_lateOf : jm_l0 mY_Z_late mY_Z_lateOf := ⟨⟨Nat.le_of_ble_eq_true rfl, Nat.le_of_ble_eq_true rfl⟩, rfl, rfl⟩
theorem ml_Z_222 : Cond.methodLink "LyingBeaconsModel" 222 ⟨"LyingBeaconsModel", "lateOf", "(II)I"⟩ ∈ jm_tbl := jm_in (List.mem_of_getElem? (i := 1037) (by decide +kernel)) rfl
theorem im_Z_lateOf : Cond.instanceMethod ⟨"LyingBeaconsModel", "lateOf", "(II)I"⟩ ∈ jm_tbl := jm_in (List.mem_of_getElem? (i := 1039) (by decide +kernel)) rfl
theorem se_Z_lateOf : Cond.selects "LyingBeaconsModel" ⟨"LyingBeaconsModel", "lateOf", "(II)I"⟩ ⟨"LyingBeaconsModel", "lateOf", "(II)I"⟩ ∈ jm_tbl := jm_in (List.mem_of_getElem? (i := 52) (by decide +kernel)) rfl
theorem l0_Law__Z_late (L : Nat) (xs : Nat → Int32) : jm_l0 (mY_Law L xs) mY_Z_late := ⟨⟨Nat.le_of_ble_eq_true rfl, Nat.le_of_ble_eq_true rfl⟩, rfl, rfl⟩
theorem ml_Law_75 : Cond.methodLink "LyingBeaconsLaw" 75 ⟨"LyingBeaconsModel", "late", "(II)I"⟩ ∈ jm_tbl := jm_in (List.mem_of_getElem? (i := 1033) (by decide +kernel)) rfl
theorem im_Z_late : Cond.instanceMethod ⟨"LyingBeaconsModel", "late", "(II)I"⟩ ∈ jm_tbl := jm_in (List.mem_of_getElem? (i := 1034) (by decide +kernel)) rfl
theorem se_Z_late : Cond.selects "LyingBeaconsModel" ⟨"LyingBeaconsModel", "late", "(II)I"⟩ ⟨"LyingBeaconsModel", "late", "(II)I"⟩ ∈ jm_tbl := jm_in (List.mem_of_getElem? (i := 1035) (by decide +kernel)) rfl
theorem ml_Law_72 : Cond.methodLink "LyingBeaconsLaw" 72 ⟨"LyingBeacons", "late", "(II)I"⟩ ∈ jm_tbl := jm_in (List.mem_of_getElem? (i := 556) (by decide +kernel)) rfl
theorem im_X_late : Cond.instanceMethod ⟨"LyingBeacons", "late", "(II)I"⟩ ∈ jm_tbl := jm_in (List.mem_of_getElem? (i := 557) (by decide +kernel)) rfl
theorem se_X_late : Cond.selects "LyingBeacons" ⟨"LyingBeacons", "late", "(II)I"⟩ ⟨"LyingBeacons", "late", "(II)I"⟩ ∈ jm_tbl := jm_in (List.mem_of_getElem? (i := 558) (by decide +kernel)) rfl
def mY_X_bears : jm_Y := (⟨"LyingBeacons", "bears", "()I"⟩, prog_1_method_16_code, 1, some .int, { frames := 6, cells := 0, slots := 0, locals := 143 }, none)
theorem cw_X_bears : Cond.code (jm_nm mY_X_bears) (jm_cd mY_X_bears) (jm_ml mY_X_bears) (jm_rt mY_X_bears) ∈ jm_tbl := jm_in (List.mem_of_getElem? (i := 582) (by decide +kernel)) rfl
theorem ok_X_bears : jm_ok mY_X_bears 0 := ⟨by decide, rfl, cw_X_bears, ini_X, by decide +kernel⟩
theorem l0_X_bears__Ne_hasEar : jm_l0 mY_X_bears mY_Ne_hasEar := ⟨⟨Nat.le_of_ble_eq_true rfl, Nat.le_of_ble_eq_true rfl⟩, rfl, rfl⟩
theorem l0_X_bears__Co_study : jm_l0 mY_X_bears mY_Co_study := ⟨⟨Nat.le_of_ble_eq_true rfl, Nat.le_of_ble_eq_true rfl⟩, rfl, rfl⟩
def mY_Co_mostBorne : jm_Y := (⟨"LyingBeacons$Council", "mostBorne", "()I"⟩, prog_2_method_17_code, 3, some .int, { frames := 5, cells := 0, slots := 0, locals := 121 }, none)
theorem cw_Co_mostBorne : Cond.code (jm_nm mY_Co_mostBorne) (jm_cd mY_Co_mostBorne) (jm_ml mY_Co_mostBorne) (jm_rt mY_Co_mostBorne) ∈ jm_tbl := jm_in (List.mem_of_getElem? (i := 586) (by decide +kernel)) rfl
theorem ok_Co_mostBorne : jm_ok mY_Co_mostBorne 0 := ⟨by decide, rfl, cw_Co_mostBorne, ini_Co, by decide +kernel⟩
def mY_Co_latestIfBorne : jm_Y := (⟨"LyingBeacons$Council", "latestIfBorne", "(I)I"⟩, prog_2_method_16_code, 3, some .int, { frames := 4, cells := 0, slots := 0, locals := 99 }, none)
theorem cw_Co_latestIfBorne : Cond.code (jm_nm mY_Co_latestIfBorne) (jm_cd mY_Co_latestIfBorne) (jm_ml mY_Co_latestIfBorne) (jm_rt mY_Co_latestIfBorne) ∈ jm_tbl := jm_in (List.mem_of_getElem? (i := 590) (by decide +kernel)) rfl
theorem ok_Co_latestIfBorne : jm_ok mY_Co_latestIfBorne 1 := ⟨by decide, rfl, cw_Co_latestIfBorne, ini_Co, by decide +kernel⟩
theorem l0_Co_latestIfBorne__JI_bitCount : jm_l0 mY_Co_latestIfBorne mY_JI_bitCount := ⟨⟨Nat.le_of_ble_eq_true rfl, Nat.le_of_ble_eq_true rfl⟩, rfl, rfl⟩
theorem l0_Co_latestIfBorne__Co_leastFoolingSet : jm_l0 mY_Co_latestIfBorne mY_Co_leastFoolingSet := ⟨⟨Nat.le_of_ble_eq_true rfl, Nat.le_of_ble_eq_true rfl⟩, rfl, rfl⟩
theorem l0_Co_latestIfBorne__Co_latest : jm_l0 mY_Co_latestIfBorne mY_Co_latest := ⟨⟨Nat.le_of_ble_eq_true rfl, Nat.le_of_ble_eq_true rfl⟩, rfl, rfl⟩
theorem ml_Co_97 : Cond.methodLink "LyingBeacons$Council" 97 ⟨"LyingBeacons$Council", "leastFoolingSet", "(I)I"⟩ ∈ jm_tbl := jm_in (List.mem_of_getElem? (i := 591) (by decide +kernel)) rfl
theorem l0_Co_mostBorne__Co_latestIfBorne : jm_l0 mY_Co_mostBorne mY_Co_latestIfBorne := ⟨⟨Nat.le_of_ble_eq_true rfl, Nat.le_of_ble_eq_true rfl⟩, rfl, rfl⟩
theorem ml_Co_100 : Cond.methodLink "LyingBeacons$Council" 100 ⟨"LyingBeacons$Council", "latestIfBorne", "(I)I"⟩ ∈ jm_tbl := jm_in (List.mem_of_getElem? (i := 587) (by decide +kernel)) rfl
theorem im_Co_latestIfBorne : Cond.instanceMethod ⟨"LyingBeacons$Council", "latestIfBorne", "(I)I"⟩ ∈ jm_tbl := jm_in (List.mem_of_getElem? (i := 589) (by decide +kernel)) rfl
theorem se_Co_latestIfBorne : Cond.selects "LyingBeacons$Council" ⟨"LyingBeacons$Council", "latestIfBorne", "(I)I"⟩ ⟨"LyingBeacons$Council", "latestIfBorne", "(I)I"⟩ ∈ jm_tbl := jm_in (List.mem_of_getElem? (i := 20) (by decide +kernel)) rfl
theorem l0_X_bears__Co_mostBorne : jm_l0 mY_X_bears mY_Co_mostBorne := ⟨⟨Nat.le_of_ble_eq_true rfl, Nat.le_of_ble_eq_true rfl⟩, rfl, rfl⟩
theorem ml_X_180 : Cond.methodLink "LyingBeacons" 180 ⟨"LyingBeacons$Council", "mostBorne", "()I"⟩ ∈ jm_tbl := jm_in (List.mem_of_getElem? (i := 583) (by decide +kernel)) rfl
theorem im_Co_mostBorne : Cond.instanceMethod ⟨"LyingBeacons$Council", "mostBorne", "()I"⟩ ∈ jm_tbl := jm_in (List.mem_of_getElem? (i := 584) (by decide +kernel)) rfl
theorem se_Co_mostBorne : Cond.selects "LyingBeacons$Council" ⟨"LyingBeacons$Council", "mostBorne", "()I"⟩ ⟨"LyingBeacons$Council", "mostBorne", "()I"⟩ ∈ jm_tbl := jm_in (List.mem_of_getElem? (i := 585) (by decide +kernel)) rfl
theorem l0_Law__X_bears (L : Nat) (xs : Nat → Int32) : jm_l0 (mY_Law L xs) mY_X_bears := ⟨⟨Nat.le_of_ble_eq_true rfl, Nat.le_of_ble_eq_true rfl⟩, rfl, rfl⟩
def mY_Z_bears : jm_Y := (⟨"LyingBeaconsModel", "bears", "()I"⟩, prog_11_method_51_code, 1, some .int, { frames := 7, cells := 0, slots := 0, locals := 165 }, none)
theorem cw_Z_bears : Cond.code (jm_nm mY_Z_bears) (jm_cd mY_Z_bears) (jm_ml mY_Z_bears) (jm_rt mY_Z_bears) ∈ jm_tbl := jm_in (List.mem_of_getElem? (i := 1048) (by decide +kernel)) rfl
theorem ok_Z_bears : jm_ok mY_Z_bears 0 := ⟨by decide, rfl, cw_Z_bears, ini_Z, by decide +kernel⟩
theorem l0_Z_bears__Z_ear : jm_l0 mY_Z_bears mY_Z_ear := ⟨⟨Nat.le_of_ble_eq_true rfl, Nat.le_of_ble_eq_true rfl⟩, rfl, rfl⟩
theorem l0_Z_bears__Z_asTold : jm_l0 mY_Z_bears mY_Z_asTold := ⟨⟨Nat.le_of_ble_eq_true rfl, Nat.le_of_ble_eq_true rfl⟩, rfl, rfl⟩
def mY_Z_mostBorne : jm_Y := (⟨"LyingBeaconsModel", "mostBorne", "()I"⟩, prog_11_method_50_code, 3, some .int, { frames := 6, cells := 0, slots := 0, locals := 143 }, none)
theorem cw_Z_mostBorne : Cond.code (jm_nm mY_Z_mostBorne) (jm_cd mY_Z_mostBorne) (jm_ml mY_Z_mostBorne) (jm_rt mY_Z_mostBorne) ∈ jm_tbl := jm_in (List.mem_of_getElem? (i := 1052) (by decide +kernel)) rfl
theorem ok_Z_mostBorne : jm_ok mY_Z_mostBorne 0 := ⟨by decide, rfl, cw_Z_mostBorne, ini_Z, by decide +kernel⟩
def mY_Z_bearsSo : jm_Y := (⟨"LyingBeaconsModel", "bearsSo", "(I)Z"⟩, prog_11_method_49_code, 3, some .boolean, { frames := 5, cells := 0, slots := 0, locals := 121 }, none)
theorem cw_Z_bearsSo : Cond.code (jm_nm mY_Z_bearsSo) (jm_cd mY_Z_bearsSo) (jm_ml mY_Z_bearsSo) (jm_rt mY_Z_bearsSo) ∈ jm_tbl := jm_in (List.mem_of_getElem? (i := 1056) (by decide +kernel)) rfl
theorem ok_Z_bearsSo : jm_ok mY_Z_bearsSo 1 := ⟨by decide, rfl, cw_Z_bearsSo, ini_Z, by decide +kernel⟩
theorem l0_Z_bearsSo__Z_latest : jm_l0 mY_Z_bearsSo mY_Z_latest := ⟨⟨Nat.le_of_ble_eq_true rfl, Nat.le_of_ble_eq_true rfl⟩, rfl, rfl⟩
theorem l0_Z_bearsSo__Z_men : jm_l0 mY_Z_bearsSo mY_Z_men := ⟨⟨Nat.le_of_ble_eq_true rfl, Nat.le_of_ble_eq_true rfl⟩, rfl, rfl⟩
theorem l0_Z_bearsSo__Z_bits : jm_l0 mY_Z_bearsSo mY_Z_bits := ⟨⟨Nat.le_of_ble_eq_true rfl, Nat.le_of_ble_eq_true rfl⟩, rfl, rfl⟩
theorem l0_Z_bearsSo__Z_isFalse : jm_l0 mY_Z_bearsSo mY_Z_isFalse := ⟨⟨Nat.le_of_ble_eq_true rfl, Nat.le_of_ble_eq_true rfl⟩, rfl, rfl⟩
theorem l0_Z_mostBorne__Z_bearsSo : jm_l0 mY_Z_mostBorne mY_Z_bearsSo := ⟨⟨Nat.le_of_ble_eq_true rfl, Nat.le_of_ble_eq_true rfl⟩, rfl, rfl⟩
theorem ml_Z_225 : Cond.methodLink "LyingBeaconsModel" 225 ⟨"LyingBeaconsModel", "bearsSo", "(I)Z"⟩ ∈ jm_tbl := jm_in (List.mem_of_getElem? (i := 1053) (by decide +kernel)) rfl
theorem im_Z_bearsSo : Cond.instanceMethod ⟨"LyingBeaconsModel", "bearsSo", "(I)Z"⟩ ∈ jm_tbl := jm_in (List.mem_of_getElem? (i := 1055) (by decide +kernel)) rfl
theorem se_Z_bearsSo : Cond.selects "LyingBeaconsModel" ⟨"LyingBeaconsModel", "bearsSo", "(I)Z"⟩ ⟨"LyingBeaconsModel", "bearsSo", "(I)Z"⟩ ∈ jm_tbl := jm_in (List.mem_of_getElem? (i := 55) (by decide +kernel)) rfl
theorem l0_Z_bears__Z_mostBorne : jm_l0 mY_Z_bears mY_Z_mostBorne := ⟨⟨Nat.le_of_ble_eq_true rfl, Nat.le_of_ble_eq_true rfl⟩, rfl, rfl⟩
theorem ml_Z_228 : Cond.methodLink "LyingBeaconsModel" 228 ⟨"LyingBeaconsModel", "mostBorne", "()I"⟩ ∈ jm_tbl := jm_in (List.mem_of_getElem? (i := 1049) (by decide +kernel)) rfl
theorem im_Z_mostBorne : Cond.instanceMethod ⟨"LyingBeaconsModel", "mostBorne", "()I"⟩ ∈ jm_tbl := jm_in (List.mem_of_getElem? (i := 1051) (by decide +kernel)) rfl
theorem se_Z_mostBorne : Cond.selects "LyingBeaconsModel" ⟨"LyingBeaconsModel", "mostBorne", "()I"⟩ ⟨"LyingBeaconsModel", "mostBorne", "()I"⟩ ∈ jm_tbl := jm_in (List.mem_of_getElem? (i := 54) (by decide +kernel)) rfl
theorem l0_Law__Z_bears (L : Nat) (xs : Nat → Int32) : jm_l0 (mY_Law L xs) mY_Z_bears := ⟨⟨Nat.le_of_ble_eq_true rfl, Nat.le_of_ble_eq_true rfl⟩, rfl, rfl⟩
theorem ml_Law_79 : Cond.methodLink "LyingBeaconsLaw" 79 ⟨"LyingBeaconsModel", "bears", "()I"⟩ ∈ jm_tbl := jm_in (List.mem_of_getElem? (i := 1045) (by decide +kernel)) rfl
theorem im_Z_bears : Cond.instanceMethod ⟨"LyingBeaconsModel", "bears", "()I"⟩ ∈ jm_tbl := jm_in (List.mem_of_getElem? (i := 1046) (by decide +kernel)) rfl
theorem se_Z_bears : Cond.selects "LyingBeaconsModel" ⟨"LyingBeaconsModel", "bears", "()I"⟩ ⟨"LyingBeaconsModel", "bears", "()I"⟩ ∈ jm_tbl := jm_in (List.mem_of_getElem? (i := 1047) (by decide +kernel)) rfl
theorem ml_Law_76 : Cond.methodLink "LyingBeaconsLaw" 76 ⟨"LyingBeacons", "bears", "()I"⟩ ∈ jm_tbl := jm_in (List.mem_of_getElem? (i := 579) (by decide +kernel)) rfl
theorem im_X_bears : Cond.instanceMethod ⟨"LyingBeacons", "bears", "()I"⟩ ∈ jm_tbl := jm_in (List.mem_of_getElem? (i := 580) (by decide +kernel)) rfl
theorem se_X_bears : Cond.selects "LyingBeacons" ⟨"LyingBeacons", "bears", "()I"⟩ ⟨"LyingBeacons", "bears", "()I"⟩ ∈ jm_tbl := jm_in (List.mem_of_getElem? (i := 581) (by decide +kernel)) rfl
def mY_X_bestRule : jm_Y := (⟨"LyingBeacons", "bestRule", "(II)I"⟩, prog_1_method_17_code, 3, some .int, { frames := 6, cells := 0, slots := 0, locals := 145 }, none)
theorem cw_X_bestRule : Cond.code (jm_nm mY_X_bestRule) (jm_cd mY_X_bestRule) (jm_ml mY_X_bestRule) (jm_rt mY_X_bestRule) ∈ jm_tbl := jm_in (List.mem_of_getElem? (i := 595) (by decide +kernel)) rfl
theorem ok_X_bestRule : jm_ok mY_X_bestRule 2 := ⟨by decide, rfl, cw_X_bestRule, ini_X, by decide +kernel⟩
theorem l0_X_bestRule__X_isNumberOfLiars : jm_l0 mY_X_bestRule mY_X_isNumberOfLiars := ⟨⟨Nat.le_of_ble_eq_true rfl, Nat.le_of_ble_eq_true rfl⟩, rfl, rfl⟩
theorem l0_X_bestRule__Ne_hasEar : jm_l0 mY_X_bestRule mY_Ne_hasEar := ⟨⟨Nat.le_of_ble_eq_true rfl, Nat.le_of_ble_eq_true rfl⟩, rfl, rfl⟩
theorem l0_X_bestRule__Co_study : jm_l0 mY_X_bestRule mY_Co_study := ⟨⟨Nat.le_of_ble_eq_true rfl, Nat.le_of_ble_eq_true rfl⟩, rfl, rfl⟩
def mY_Co_seekBestRule : jm_Y := (⟨"LyingBeacons$Council", "seekBestRule", "(I)V"⟩, prog_2_method_18_code, 5, none, { frames := 5, cells := 0, slots := 0, locals := 121 }, none)
theorem cw_Co_seekBestRule : Cond.code (jm_nm mY_Co_seekBestRule) (jm_cd mY_Co_seekBestRule) (jm_ml mY_Co_seekBestRule) (jm_rt mY_Co_seekBestRule) ∈ jm_tbl := jm_in (List.mem_of_getElem? (i := 599) (by decide +kernel)) rfl
theorem ok_Co_seekBestRule : jm_ok mY_Co_seekBestRule 1 := ⟨by decide, rfl, cw_Co_seekBestRule, ini_Co, by decide +kernel⟩
def mY_Co_ruleAllBy : jm_Y := (⟨"LyingBeacons$Council", "ruleAllBy", "(II)V"⟩, prog_2_method_19_code, 4, none, { frames := 0, cells := 0, slots := 0, locals := 0 }, none)
theorem cw_Co_ruleAllBy : Cond.code (jm_nm mY_Co_ruleAllBy) (jm_cd mY_Co_ruleAllBy) (jm_ml mY_Co_ruleAllBy) (jm_rt mY_Co_ruleAllBy) ∈ jm_tbl := jm_in (List.mem_of_getElem? (i := 603) (by decide +kernel)) rfl
theorem ok_Co_ruleAllBy : jm_ok mY_Co_ruleAllBy 2 := ⟨by decide, rfl, cw_Co_ruleAllBy, ini_Co, by decide +kernel⟩
theorem l0_Co_seekBestRule__Co_ruleAllBy : jm_l0 mY_Co_seekBestRule mY_Co_ruleAllBy := ⟨⟨Nat.le_of_ble_eq_true rfl, Nat.le_of_ble_eq_true rfl⟩, rfl, rfl⟩
theorem l0_Co_seekBestRule__Co_latestIfBorne : jm_l0 mY_Co_seekBestRule mY_Co_latestIfBorne := ⟨⟨Nat.le_of_ble_eq_true rfl, Nat.le_of_ble_eq_true rfl⟩, rfl, rfl⟩
theorem ml_Co_103 : Cond.methodLink "LyingBeacons$Council" 103 ⟨"LyingBeacons$Council", "ruleAllBy", "(II)V"⟩ ∈ jm_tbl := jm_in (List.mem_of_getElem? (i := 600) (by decide +kernel)) rfl
theorem im_Co_ruleAllBy : Cond.instanceMethod ⟨"LyingBeacons$Council", "ruleAllBy", "(II)V"⟩ ∈ jm_tbl := jm_in (List.mem_of_getElem? (i := 602) (by decide +kernel)) rfl
theorem se_Co_ruleAllBy : Cond.selects "LyingBeacons$Council" ⟨"LyingBeacons$Council", "ruleAllBy", "(II)V"⟩ ⟨"LyingBeacons$Council", "ruleAllBy", "(II)V"⟩ ∈ jm_tbl := jm_in (List.mem_of_getElem? (i := 21) (by decide +kernel)) rfl
theorem l0_X_bestRule__Co_seekBestRule : jm_l0 mY_X_bestRule mY_Co_seekBestRule := ⟨⟨Nat.le_of_ble_eq_true rfl, Nat.le_of_ble_eq_true rfl⟩, rfl, rfl⟩
theorem fo_X_190 : jm_fo "LyingBeacons" 190 0 1 RX0 TX0 10 := ⟨inY0, rfl, by decide, jm_in (List.mem_of_getElem? (i := 224) (by decide +kernel)) rfl⟩
theorem fo_X_187 : jm_fo "LyingBeacons" 187 0 0 RX0 TX0 10 := ⟨inY0, rfl, by decide, jm_in (List.mem_of_getElem? (i := 222) (by decide +kernel)) rfl⟩
theorem ml_X_183 : Cond.methodLink "LyingBeacons" 183 ⟨"LyingBeacons$Council", "seekBestRule", "(I)V"⟩ ∈ jm_tbl := jm_in (List.mem_of_getElem? (i := 596) (by decide +kernel)) rfl
theorem im_Co_seekBestRule : Cond.instanceMethod ⟨"LyingBeacons$Council", "seekBestRule", "(I)V"⟩ ∈ jm_tbl := jm_in (List.mem_of_getElem? (i := 597) (by decide +kernel)) rfl
theorem se_Co_seekBestRule : Cond.selects "LyingBeacons$Council" ⟨"LyingBeacons$Council", "seekBestRule", "(I)V"⟩ ⟨"LyingBeacons$Council", "seekBestRule", "(I)V"⟩ ∈ jm_tbl := jm_in (List.mem_of_getElem? (i := 598) (by decide +kernel)) rfl
theorem l0_Law__X_bestRule (L : Nat) (xs : Nat → Int32) : jm_l0 (mY_Law L xs) mY_X_bestRule := ⟨⟨Nat.le_of_ble_eq_true rfl, Nat.le_of_ble_eq_true rfl⟩, rfl, rfl⟩
def mY_Z_bestRule : jm_Y := (⟨"LyingBeaconsModel", "bestRule", "(II)I"⟩, prog_11_method_52_code, 8, some .int, { frames := 6, cells := 0, slots := 0, locals := 143 }, none)
theorem cw_Z_bestRule : Cond.code (jm_nm mY_Z_bestRule) (jm_cd mY_Z_bestRule) (jm_ml mY_Z_bestRule) (jm_rt mY_Z_bestRule) ∈ jm_tbl := jm_in (List.mem_of_getElem? (i := 1060) (by decide +kernel)) rfl
theorem ok_Z_bestRule : jm_ok mY_Z_bestRule 2 := ⟨by decide, rfl, cw_Z_bestRule, ini_Z, by decide +kernel⟩
theorem l0_Z_bestRule__Z_in : jm_l0 mY_Z_bestRule mY_Z_in := ⟨⟨Nat.le_of_ble_eq_true rfl, Nat.le_of_ble_eq_true rfl⟩, rfl, rfl⟩
theorem l0_Z_bestRule__Z_ear : jm_l0 mY_Z_bestRule mY_Z_ear := ⟨⟨Nat.le_of_ble_eq_true rfl, Nat.le_of_ble_eq_true rfl⟩, rfl, rfl⟩
theorem l0_Z_bestRule__Z_asTold : jm_l0 mY_Z_bestRule mY_Z_asTold := ⟨⟨Nat.le_of_ble_eq_true rfl, Nat.le_of_ble_eq_true rfl⟩, rfl, rfl⟩
theorem l0_Z_bestRule__Z_bearsSo : jm_l0 mY_Z_bestRule mY_Z_bearsSo := ⟨⟨Nat.le_of_ble_eq_true rfl, Nat.le_of_ble_eq_true rfl⟩, rfl, rfl⟩
theorem l0_Z_bestRule__Z_latest : jm_l0 mY_Z_bestRule mY_Z_latest := ⟨⟨Nat.le_of_ble_eq_true rfl, Nat.le_of_ble_eq_true rfl⟩, rfl, rfl⟩
theorem l0_Law__Z_bestRule (L : Nat) (xs : Nat → Int32) : jm_l0 (mY_Law L xs) mY_Z_bestRule := ⟨⟨Nat.le_of_ble_eq_true rfl, Nat.le_of_ble_eq_true rfl⟩, rfl, rfl⟩
theorem ml_Law_83 : Cond.methodLink "LyingBeaconsLaw" 83 ⟨"LyingBeaconsModel", "bestRule", "(II)I"⟩ ∈ jm_tbl := jm_in (List.mem_of_getElem? (i := 1057) (by decide +kernel)) rfl
theorem im_Z_bestRule : Cond.instanceMethod ⟨"LyingBeaconsModel", "bestRule", "(II)I"⟩ ∈ jm_tbl := jm_in (List.mem_of_getElem? (i := 1058) (by decide +kernel)) rfl
theorem se_Z_bestRule : Cond.selects "LyingBeaconsModel" ⟨"LyingBeaconsModel", "bestRule", "(II)I"⟩ ⟨"LyingBeaconsModel", "bestRule", "(II)I"⟩ ∈ jm_tbl := jm_in (List.mem_of_getElem? (i := 1059) (by decide +kernel)) rfl
theorem ml_Law_80 : Cond.methodLink "LyingBeaconsLaw" 80 ⟨"LyingBeacons", "bestRule", "(II)I"⟩ ∈ jm_tbl := jm_in (List.mem_of_getElem? (i := 592) (by decide +kernel)) rfl
theorem im_X_bestRule : Cond.instanceMethod ⟨"LyingBeacons", "bestRule", "(II)I"⟩ ∈ jm_tbl := jm_in (List.mem_of_getElem? (i := 593) (by decide +kernel)) rfl
theorem se_X_bestRule : Cond.selects "LyingBeacons" ⟨"LyingBeacons", "bestRule", "(II)I"⟩ ⟨"LyingBeacons", "bestRule", "(II)I"⟩ ∈ jm_tbl := jm_in (List.mem_of_getElem? (i := 594) (by decide +kernel)) rfl
def mY_X_added : jm_Y := (⟨"LyingBeacons", "added", "(I)I"⟩, prog_1_method_18_code, 2, some .int, { frames := 6, cells := 0, slots := 0, locals := 147 }, none)
theorem cw_X_added : Cond.code (jm_nm mY_X_added) (jm_cd mY_X_added) (jm_ml mY_X_added) (jm_rt mY_X_added) ∈ jm_tbl := jm_in (List.mem_of_getElem? (i := 607) (by decide +kernel)) rfl
theorem ok_X_added : jm_ok mY_X_added 1 := ⟨by decide, rfl, cw_X_added, ini_X, by decide +kernel⟩
theorem l0_X_added__X_isNumberOfLiars : jm_l0 mY_X_added mY_X_isNumberOfLiars := ⟨⟨Nat.le_of_ble_eq_true rfl, Nat.le_of_ble_eq_true rfl⟩, rfl, rfl⟩
theorem l0_X_added__Ne_hasEar : jm_l0 mY_X_added mY_Ne_hasEar := ⟨⟨Nat.le_of_ble_eq_true rfl, Nat.le_of_ble_eq_true rfl⟩, rfl, rfl⟩
theorem l0_X_added__Co_study : jm_l0 mY_X_added mY_Co_study := ⟨⟨Nat.le_of_ble_eq_true rfl, Nat.le_of_ble_eq_true rfl⟩, rfl, rfl⟩
theorem l0_X_added__Ne_ofKind : jm_l0 mY_X_added mY_Ne_ofKind := ⟨⟨Nat.le_of_ble_eq_true rfl, Nat.le_of_ble_eq_true rfl⟩, rfl, rfl⟩
def mY_Co_fewestSpares : jm_Y := (⟨"LyingBeacons$Council", "fewestSpares", "(II)I"⟩, prog_2_method_20_code, 7, some .int, { frames := 5, cells := 0, slots := 0, locals := 121 }, none)
theorem cw_Co_fewestSpares : Cond.code (jm_nm mY_Co_fewestSpares) (jm_cd mY_Co_fewestSpares) (jm_ml mY_Co_fewestSpares) (jm_rt mY_Co_fewestSpares) ∈ jm_tbl := jm_in (List.mem_of_getElem? (i := 611) (by decide +kernel)) rfl
theorem ok_Co_fewestSpares : jm_ok mY_Co_fewestSpares 2 := ⟨by decide, rfl, cw_Co_fewestSpares, ini_Co, by decide +kernel⟩
theorem l0_Co_fewestSpares__JI_bitCount : jm_l0 mY_Co_fewestSpares mY_JI_bitCount := ⟨⟨Nat.le_of_ble_eq_true rfl, Nat.le_of_ble_eq_true rfl⟩, rfl, rfl⟩
theorem l0_Co_fewestSpares__Co_nextSet : jm_l0 mY_Co_fewestSpares mY_Co_nextSet := ⟨⟨Nat.le_of_ble_eq_true rfl, Nat.le_of_ble_eq_true rfl⟩, rfl, rfl⟩
theorem l0_Co_fewestSpares__Co_latestIfBorne : jm_l0 mY_Co_fewestSpares mY_Co_latestIfBorne := ⟨⟨Nat.le_of_ble_eq_true rfl, Nat.le_of_ble_eq_true rfl⟩, rfl, rfl⟩
theorem l0_X_added__Co_fewestSpares : jm_l0 mY_X_added mY_Co_fewestSpares := ⟨⟨Nat.le_of_ble_eq_true rfl, Nat.le_of_ble_eq_true rfl⟩, rfl, rfl⟩
theorem ml_X_193 : Cond.methodLink "LyingBeacons" 193 ⟨"LyingBeacons$Council", "fewestSpares", "(II)I"⟩ ∈ jm_tbl := jm_in (List.mem_of_getElem? (i := 608) (by decide +kernel)) rfl
theorem im_Co_fewestSpares : Cond.instanceMethod ⟨"LyingBeacons$Council", "fewestSpares", "(II)I"⟩ ∈ jm_tbl := jm_in (List.mem_of_getElem? (i := 609) (by decide +kernel)) rfl
theorem se_Co_fewestSpares : Cond.selects "LyingBeacons$Council" ⟨"LyingBeacons$Council", "fewestSpares", "(II)I"⟩ ⟨"LyingBeacons$Council", "fewestSpares", "(II)I"⟩ ∈ jm_tbl := jm_in (List.mem_of_getElem? (i := 610) (by decide +kernel)) rfl
theorem l0_Law__X_added (L : Nat) (xs : Nat → Int32) : jm_l0 (mY_Law L xs) mY_X_added := ⟨⟨Nat.le_of_ble_eq_true rfl, Nat.le_of_ble_eq_true rfl⟩, rfl, rfl⟩
def mY_Z_added : jm_Y := (⟨"LyingBeaconsModel", "added", "(I)I"⟩, prog_11_method_53_code, 7, some .int, { frames := 7, cells := 0, slots := 0, locals := 165 }, none)
theorem cw_Z_added : Cond.code (jm_nm mY_Z_added) (jm_cd mY_Z_added) (jm_ml mY_Z_added) (jm_rt mY_Z_added) ∈ jm_tbl := jm_in (List.mem_of_getElem? (i := 1064) (by decide +kernel)) rfl
theorem ok_Z_added : jm_ok mY_Z_added 1 := ⟨by decide, rfl, cw_Z_added, ini_Z, by decide +kernel⟩
theorem l0_Z_added__Z_in : jm_l0 mY_Z_added mY_Z_in := ⟨⟨Nat.le_of_ble_eq_true rfl, Nat.le_of_ble_eq_true rfl⟩, rfl, rfl⟩
theorem l0_Z_added__Z_ear : jm_l0 mY_Z_added mY_Z_ear := ⟨⟨Nat.le_of_ble_eq_true rfl, Nat.le_of_ble_eq_true rfl⟩, rfl, rfl⟩
theorem l0_Z_added__Z_asTold : jm_l0 mY_Z_added mY_Z_asTold := ⟨⟨Nat.le_of_ble_eq_true rfl, Nat.le_of_ble_eq_true rfl⟩, rfl, rfl⟩
theorem l0_Z_added__Z_ofKind : jm_l0 mY_Z_added mY_Z_ofKind := ⟨⟨Nat.le_of_ble_eq_true rfl, Nat.le_of_ble_eq_true rfl⟩, rfl, rfl⟩
theorem l0_Z_added__Z_mostBorne : jm_l0 mY_Z_added mY_Z_mostBorne := ⟨⟨Nat.le_of_ble_eq_true rfl, Nat.le_of_ble_eq_true rfl⟩, rfl, rfl⟩
theorem l0_Z_added__Z_bits : jm_l0 mY_Z_added mY_Z_bits := ⟨⟨Nat.le_of_ble_eq_true rfl, Nat.le_of_ble_eq_true rfl⟩, rfl, rfl⟩
theorem l0_Law__Z_added (L : Nat) (xs : Nat → Int32) : jm_l0 (mY_Law L xs) mY_Z_added := ⟨⟨Nat.le_of_ble_eq_true rfl, Nat.le_of_ble_eq_true rfl⟩, rfl, rfl⟩
theorem ml_Law_87 : Cond.methodLink "LyingBeaconsLaw" 87 ⟨"LyingBeaconsModel", "added", "(I)I"⟩ ∈ jm_tbl := jm_in (List.mem_of_getElem? (i := 1061) (by decide +kernel)) rfl
theorem im_Z_added : Cond.instanceMethod ⟨"LyingBeaconsModel", "added", "(I)I"⟩ ∈ jm_tbl := jm_in (List.mem_of_getElem? (i := 1062) (by decide +kernel)) rfl
theorem se_Z_added : Cond.selects "LyingBeaconsModel" ⟨"LyingBeaconsModel", "added", "(I)I"⟩ ⟨"LyingBeaconsModel", "added", "(I)I"⟩ ∈ jm_tbl := jm_in (List.mem_of_getElem? (i := 1063) (by decide +kernel)) rfl
theorem ml_Law_84 : Cond.methodLink "LyingBeaconsLaw" 84 ⟨"LyingBeacons", "added", "(I)I"⟩ ∈ jm_tbl := jm_in (List.mem_of_getElem? (i := 604) (by decide +kernel)) rfl
theorem im_X_added : Cond.instanceMethod ⟨"LyingBeacons", "added", "(I)I"⟩ ∈ jm_tbl := jm_in (List.mem_of_getElem? (i := 605) (by decide +kernel)) rfl
theorem se_X_added : Cond.selects "LyingBeacons" ⟨"LyingBeacons", "added", "(I)I"⟩ ⟨"LyingBeacons", "added", "(I)I"⟩ ∈ jm_tbl := jm_in (List.mem_of_getElem? (i := 606) (by decide +kernel)) rfl
def mY_X_log : jm_Y := (⟨"LyingBeacons", "log", "(II)I"⟩, prog_1_method_19_code, 4, some .int, { frames := 1, cells := 0, slots := 0, locals := 21 }, none)
theorem cw_X_log : Cond.code (jm_nm mY_X_log) (jm_cd mY_X_log) (jm_ml mY_X_log) (jm_rt mY_X_log) ∈ jm_tbl := jm_in (List.mem_of_getElem? (i := 615) (by decide +kernel)) rfl
theorem ok_X_log : jm_ok mY_X_log 2 := ⟨by decide, rfl, cw_X_log, ini_X, by decide +kernel⟩
theorem l0_X_log__Ne_isHill : jm_l0 mY_X_log mY_Ne_isHill := ⟨⟨Nat.le_of_ble_eq_true rfl, Nat.le_of_ble_eq_true rfl⟩, rfl, rfl⟩
theorem cb_m100 : (Int8.ofInt (-100)).toInt32 = (-100 : Int32) := by decide
theorem fo_X_196 : jm_fo "LyingBeacons" 196 2 6 RX3 TX3 12 := ⟨inY3, rfl, by decide, jm_in (List.mem_of_getElem? (i := 156) (by decide +kernel)) rfl⟩
theorem l0_Law__X_log (L : Nat) (xs : Nat → Int32) : jm_l0 (mY_Law L xs) mY_X_log := ⟨⟨Nat.le_of_ble_eq_true rfl, Nat.le_of_ble_eq_true rfl⟩, rfl, rfl⟩
def mY_Z_log : jm_Y := (⟨"LyingBeaconsModel", "log", "(II)I"⟩, prog_11_method_54_code, 4, some .int, { frames := 2, cells := 0, slots := 0, locals := 46 }, none)
theorem cw_Z_log : Cond.code (jm_nm mY_Z_log) (jm_cd mY_Z_log) (jm_ml mY_Z_log) (jm_rt mY_Z_log) ∈ jm_tbl := jm_in (List.mem_of_getElem? (i := 1068) (by decide +kernel)) rfl
theorem ok_Z_log : jm_ok mY_Z_log 2 := ⟨by decide, rfl, cw_Z_log, ini_Z, by decide +kernel⟩
theorem l0_Z_log__Z_isHill : jm_l0 mY_Z_log mY_Z_isHill := ⟨⟨Nat.le_of_ble_eq_true rfl, Nat.le_of_ble_eq_true rfl⟩, rfl, rfl⟩
theorem kl_Z_231 : Cond.constantLong "LyingBeaconsModel" 231 (-1 : Int64) ∈ jm_tbl := jm_in (List.mem_of_getElem? (i := 1069) (by decide +kernel)) rfl
theorem kl_Z_233 : Cond.constantLong "LyingBeaconsModel" 233 (60 : Int64) ∈ jm_tbl := jm_in (List.mem_of_getElem? (i := 1070) (by decide +kernel)) rfl
theorem l0_Z_log__Z_in : jm_l0 mY_Z_log mY_Z_in := ⟨⟨Nat.le_of_ble_eq_true rfl, Nat.le_of_ble_eq_true rfl⟩, rfl, rfl⟩
theorem l0_Law__Z_log (L : Nat) (xs : Nat → Int32) : jm_l0 (mY_Law L xs) mY_Z_log := ⟨⟨Nat.le_of_ble_eq_true rfl, Nat.le_of_ble_eq_true rfl⟩, rfl, rfl⟩
theorem ml_Law_91 : Cond.methodLink "LyingBeaconsLaw" 91 ⟨"LyingBeaconsModel", "log", "(II)I"⟩ ∈ jm_tbl := jm_in (List.mem_of_getElem? (i := 1065) (by decide +kernel)) rfl
theorem im_Z_log : Cond.instanceMethod ⟨"LyingBeaconsModel", "log", "(II)I"⟩ ∈ jm_tbl := jm_in (List.mem_of_getElem? (i := 1066) (by decide +kernel)) rfl
theorem se_Z_log : Cond.selects "LyingBeaconsModel" ⟨"LyingBeaconsModel", "log", "(II)I"⟩ ⟨"LyingBeaconsModel", "log", "(II)I"⟩ ∈ jm_tbl := jm_in (List.mem_of_getElem? (i := 1067) (by decide +kernel)) rfl
theorem ml_Law_88 : Cond.methodLink "LyingBeaconsLaw" 88 ⟨"LyingBeacons", "log", "(II)I"⟩ ∈ jm_tbl := jm_in (List.mem_of_getElem? (i := 612) (by decide +kernel)) rfl
theorem im_X_log : Cond.instanceMethod ⟨"LyingBeacons", "log", "(II)I"⟩ ∈ jm_tbl := jm_in (List.mem_of_getElem? (i := 613) (by decide +kernel)) rfl
theorem se_X_log : Cond.selects "LyingBeacons" ⟨"LyingBeacons", "log", "(II)I"⟩ ⟨"LyingBeacons", "log", "(II)I"⟩ ∈ jm_tbl := jm_in (List.mem_of_getElem? (i := 614) (by decide +kernel)) rfl
def mY_X_logs : jm_Y := (⟨"LyingBeacons", "logs", "(I)I"⟩, prog_1_method_20_code, 2, some .int, { frames := 5, cells := 0, slots := 0, locals := 118 }, none)
theorem cw_X_logs : Cond.code (jm_nm mY_X_logs) (jm_cd mY_X_logs) (jm_ml mY_X_logs) (jm_rt mY_X_logs) ∈ jm_tbl := jm_in (List.mem_of_getElem? (i := 619) (by decide +kernel)) rfl
theorem ok_X_logs : jm_ok mY_X_logs 1 := ⟨by decide, rfl, cw_X_logs, ini_X, by decide +kernel⟩
def mY_Lo_sureWithoutCause : jm_Y := (⟨"LyingBeacons$Logbook", "sureWithoutCause", "(LLyingBeacons$Net;)I"⟩, prog_4_method_2_code, 1, some .int, { frames := 4, cells := 0, slots := 0, locals := 92 }, none)
theorem cw_Lo_sureWithoutCause : Cond.code (jm_nm mY_Lo_sureWithoutCause) (jm_cd mY_Lo_sureWithoutCause) (jm_ml mY_Lo_sureWithoutCause) (jm_rt mY_Lo_sureWithoutCause) ∈ jm_tbl := jm_in (List.mem_of_getElem? (i := 622) (by decide +kernel)) rfl
theorem ini_Lo : Cond.initialized "LyingBeacons$Logbook" ∈ jm_tbl := jm_in (List.mem_of_getElem? (i := 74) (by decide +kernel)) rfl
theorem ok_Lo_sureWithoutCause : jm_ok mY_Lo_sureWithoutCause 1 := ⟨by decide, rfl, cw_Lo_sureWithoutCause, ini_Lo, by decide +kernel⟩
def mY_Lo_judged : jm_Y := (⟨"LyingBeacons$Logbook", "judged", "(LLyingBeacons$Net;I)I"⟩, prog_4_method_4_code, 4, some .int, { frames := 3, cells := 0, slots := 0, locals := 69 }, none)
theorem cw_Lo_judged : Cond.code (jm_nm mY_Lo_judged) (jm_cd mY_Lo_judged) (jm_ml mY_Lo_judged) (jm_rt mY_Lo_judged) ∈ jm_tbl := jm_in (List.mem_of_getElem? (i := 625) (by decide +kernel)) rfl
theorem ok_Lo_judged : jm_ok mY_Lo_judged 2 := ⟨by decide, rfl, cw_Lo_judged, ini_Lo, by decide +kernel⟩
def mY_Lo_judgement : jm_Y := (⟨"LyingBeacons$Logbook", "judgement", "(LLyingBeacons$Net;I)I"⟩, prog_4_method_5_code, 7, some .int, { frames := 2, cells := 0, slots := 0, locals := 43 }, none)
theorem cw_Lo_judgement : Cond.code (jm_nm mY_Lo_judgement) (jm_cd mY_Lo_judgement) (jm_ml mY_Lo_judgement) (jm_rt mY_Lo_judgement) ∈ jm_tbl := jm_in (List.mem_of_getElem? (i := 628) (by decide +kernel)) rfl
theorem ok_Lo_judgement : jm_ok mY_Lo_judgement 2 := ⟨by decide, rfl, cw_Lo_judgement, ini_Lo, by decide +kernel⟩
theorem fo_Lo_18 : jm_fo "LyingBeacons$Logbook" 18 2 1 RX3 TX3 12 := ⟨inY3, rfl, by decide, jm_in (List.mem_of_getElem? (i := 128) (by decide +kernel)) rfl⟩
theorem fo_Lo_24 : jm_fo "LyingBeacons$Logbook" 24 2 6 RX3 TX3 12 := ⟨inY3, rfl, by decide, jm_in (List.mem_of_getElem? (i := 155) (by decide +kernel)) rfl⟩
def mY_Lo_isBurning : jm_Y := (⟨"LyingBeacons$Logbook", "isBurning", "(I)Z"⟩, prog_4_method_6_code, 1, some .boolean, { frames := 0, cells := 0, slots := 0, locals := 0 }, none)
theorem cw_Lo_isBurning : Cond.code (jm_nm mY_Lo_isBurning) (jm_cd mY_Lo_isBurning) (jm_ml mY_Lo_isBurning) (jm_rt mY_Lo_isBurning) ∈ jm_tbl := jm_in (List.mem_of_getElem? (i := 631) (by decide +kernel)) rfl
theorem ok_Lo_isBurning : jm_ok mY_Lo_isBurning 1 := ⟨by decide, rfl, cw_Lo_isBurning, ini_Lo, by decide +kernel⟩
theorem l0_Lo_judgement__Lo_isBurning : jm_l0 mY_Lo_judgement mY_Lo_isBurning := ⟨⟨Nat.le_of_ble_eq_true rfl, Nat.le_of_ble_eq_true rfl⟩, rfl, rfl⟩
theorem fo_Lo_31 : jm_fo "LyingBeacons$Logbook" 31 2 4 RX3 TX3 12 := ⟨inY3, rfl, by decide, jm_in (List.mem_of_getElem? (i := 146) (by decide +kernel)) rfl⟩
theorem fo_Lo_34 : jm_fo "LyingBeacons$Logbook" 34 2 2 RX3 TX3 12 := ⟨inY3, rfl, by decide, jm_in (List.mem_of_getElem? (i := 134) (by decide +kernel)) rfl⟩
theorem l0_Lo_judgement__Ne_folk : jm_l0 mY_Lo_judgement mY_Ne_folk := ⟨⟨Nat.le_of_ble_eq_true rfl, Nat.le_of_ble_eq_true rfl⟩, rfl, rfl⟩
theorem fo_Lo_41 : jm_fo "LyingBeacons$Logbook" 41 2 3 RX3 TX3 12 := ⟨inY3, rfl, by decide, jm_in (List.mem_of_getElem? (i := 140) (by decide +kernel)) rfl⟩
theorem ml_Lo_37 : Cond.methodLink "LyingBeacons$Logbook" 37 ⟨"LyingBeacons$Net", "folk", "()I"⟩ ∈ jm_tbl := jm_in (List.mem_of_getElem? (i := 632) (by decide +kernel)) rfl
theorem ml_Lo_27 : Cond.methodLink "LyingBeacons$Logbook" 27 ⟨"LyingBeacons$Logbook", "isBurning", "(I)Z"⟩ ∈ jm_tbl := jm_in (List.mem_of_getElem? (i := 629) (by decide +kernel)) rfl
theorem sm_Lo_isBurning : Cond.static ⟨"LyingBeacons$Logbook", "isBurning", "(I)Z"⟩ ∈ jm_tbl := jm_in (List.mem_of_getElem? (i := 630) (by decide +kernel)) rfl
theorem l0_Lo_judged__Lo_judgement : jm_l0 mY_Lo_judged mY_Lo_judgement := ⟨⟨Nat.le_of_ble_eq_true rfl, Nat.le_of_ble_eq_true rfl⟩, rfl, rfl⟩
theorem ml_Lo_15 : Cond.methodLink "LyingBeacons$Logbook" 15 ⟨"LyingBeacons$Logbook", "judgement", "(LLyingBeacons$Net;I)I"⟩ ∈ jm_tbl := jm_in (List.mem_of_getElem? (i := 626) (by decide +kernel)) rfl
theorem sm_Lo_judgement : Cond.static ⟨"LyingBeacons$Logbook", "judgement", "(LLyingBeacons$Net;I)I"⟩ ∈ jm_tbl := jm_in (List.mem_of_getElem? (i := 627) (by decide +kernel)) rfl
theorem l0_Lo_sureWithoutCause__Lo_judged : jm_l0 mY_Lo_sureWithoutCause mY_Lo_judged := ⟨⟨Nat.le_of_ble_eq_true rfl, Nat.le_of_ble_eq_true rfl⟩, rfl, rfl⟩
theorem ml_Lo_11 : Cond.methodLink "LyingBeacons$Logbook" 11 ⟨"LyingBeacons$Logbook", "judged", "(LLyingBeacons$Net;I)I"⟩ ∈ jm_tbl := jm_in (List.mem_of_getElem? (i := 623) (by decide +kernel)) rfl
theorem sm_Lo_judged : Cond.static ⟨"LyingBeacons$Logbook", "judged", "(LLyingBeacons$Net;I)I"⟩ ∈ jm_tbl := jm_in (List.mem_of_getElem? (i := 624) (by decide +kernel)) rfl
theorem l0_X_logs__Lo_sureWithoutCause : jm_l0 mY_X_logs mY_Lo_sureWithoutCause := ⟨⟨Nat.le_of_ble_eq_true rfl, Nat.le_of_ble_eq_true rfl⟩, rfl, rfl⟩
theorem ml_X_199 : Cond.methodLink "LyingBeacons" 199 ⟨"LyingBeacons$Logbook", "sureWithoutCause", "(LLyingBeacons$Net;)I"⟩ ∈ jm_tbl := jm_in (List.mem_of_getElem? (i := 620) (by decide +kernel)) rfl
theorem sm_Lo_sureWithoutCause : Cond.static ⟨"LyingBeacons$Logbook", "sureWithoutCause", "(LLyingBeacons$Net;)I"⟩ ∈ jm_tbl := jm_in (List.mem_of_getElem? (i := 621) (by decide +kernel)) rfl
def mY_Lo_maybeWithoutCause : jm_Y := (⟨"LyingBeacons$Logbook", "maybeWithoutCause", "(LLyingBeacons$Net;)I"⟩, prog_4_method_3_code, 1, some .int, { frames := 4, cells := 0, slots := 0, locals := 92 }, none)
theorem cw_Lo_maybeWithoutCause : Cond.code (jm_nm mY_Lo_maybeWithoutCause) (jm_cd mY_Lo_maybeWithoutCause) (jm_ml mY_Lo_maybeWithoutCause) (jm_rt mY_Lo_maybeWithoutCause) ∈ jm_tbl := jm_in (List.mem_of_getElem? (i := 635) (by decide +kernel)) rfl
theorem ok_Lo_maybeWithoutCause : jm_ok mY_Lo_maybeWithoutCause 1 := ⟨by decide, rfl, cw_Lo_maybeWithoutCause, ini_Lo, by decide +kernel⟩
theorem l0_Lo_maybeWithoutCause__Lo_judged : jm_l0 mY_Lo_maybeWithoutCause mY_Lo_judged := ⟨⟨Nat.le_of_ble_eq_true rfl, Nat.le_of_ble_eq_true rfl⟩, rfl, rfl⟩
theorem l0_X_logs__Lo_maybeWithoutCause : jm_l0 mY_X_logs mY_Lo_maybeWithoutCause := ⟨⟨Nat.le_of_ble_eq_true rfl, Nat.le_of_ble_eq_true rfl⟩, rfl, rfl⟩
theorem ml_X_205 : Cond.methodLink "LyingBeacons" 205 ⟨"LyingBeacons$Logbook", "maybeWithoutCause", "(LLyingBeacons$Net;)I"⟩ ∈ jm_tbl := jm_in (List.mem_of_getElem? (i := 633) (by decide +kernel)) rfl
theorem sm_Lo_maybeWithoutCause : Cond.static ⟨"LyingBeacons$Logbook", "maybeWithoutCause", "(LLyingBeacons$Net;)I"⟩ ∈ jm_tbl := jm_in (List.mem_of_getElem? (i := 634) (by decide +kernel)) rfl
def mY_Lo_toBeAsked : jm_Y := (⟨"LyingBeacons$Logbook", "toBeAsked", "(LLyingBeacons$Net;)I"⟩, prog_4_method_7_code, 7, some .int, { frames := 4, cells := 0, slots := 0, locals := 92 }, none)
theorem cw_Lo_toBeAsked : Cond.code (jm_nm mY_Lo_toBeAsked) (jm_cd mY_Lo_toBeAsked) (jm_ml mY_Lo_toBeAsked) (jm_rt mY_Lo_toBeAsked) ∈ jm_tbl := jm_in (List.mem_of_getElem? (i := 638) (by decide +kernel)) rfl
theorem ok_Lo_toBeAsked : jm_ok mY_Lo_toBeAsked 1 := ⟨by decide, rfl, cw_Lo_toBeAsked, ini_Lo, by decide +kernel⟩
theorem l0_Lo_toBeAsked__Lo_judged : jm_l0 mY_Lo_toBeAsked mY_Lo_judged := ⟨⟨Nat.le_of_ble_eq_true rfl, Nat.le_of_ble_eq_true rfl⟩, rfl, rfl⟩
theorem l0_Lo_toBeAsked__Ne_folk : jm_l0 mY_Lo_toBeAsked mY_Ne_folk := ⟨⟨Nat.le_of_ble_eq_true rfl, Nat.le_of_ble_eq_true rfl⟩, rfl, rfl⟩
theorem l0_Lo_toBeAsked__JI_bitCount : jm_l0 mY_Lo_toBeAsked mY_JI_bitCount := ⟨⟨Nat.le_of_ble_eq_true rfl, Nat.le_of_ble_eq_true rfl⟩, rfl, rfl⟩
theorem ml_Lo_44 : Cond.methodLink "LyingBeacons$Logbook" 44 ⟨"java/lang/Integer", "bitCount", "(I)I"⟩ ∈ jm_tbl := jm_in (List.mem_of_getElem? (i := 639) (by decide +kernel)) rfl
theorem l0_X_logs__Lo_toBeAsked : jm_l0 mY_X_logs mY_Lo_toBeAsked := ⟨⟨Nat.le_of_ble_eq_true rfl, Nat.le_of_ble_eq_true rfl⟩, rfl, rfl⟩
theorem ml_X_208 : Cond.methodLink "LyingBeacons" 208 ⟨"LyingBeacons$Logbook", "toBeAsked", "(LLyingBeacons$Net;)I"⟩ ∈ jm_tbl := jm_in (List.mem_of_getElem? (i := 636) (by decide +kernel)) rfl
theorem sm_Lo_toBeAsked : Cond.static ⟨"LyingBeacons$Logbook", "toBeAsked", "(LLyingBeacons$Net;)I"⟩ ∈ jm_tbl := jm_in (List.mem_of_getElem? (i := 637) (by decide +kernel)) rfl
theorem l0_X_logs__Co_study : jm_l0 mY_X_logs mY_Co_study := ⟨⟨Nat.le_of_ble_eq_true rfl, Nat.le_of_ble_eq_true rfl⟩, rfl, rfl⟩
def mY_Lo_tooSoon : jm_Y := (⟨"LyingBeacons$Logbook", "tooSoon", "(LLyingBeacons$Net;LLyingBeacons$Council;)I"⟩, prog_4_method_8_code, 6, some .int, { frames := 4, cells := 0, slots := 0, locals := 91 }, none)
theorem cw_Lo_tooSoon : Cond.code (jm_nm mY_Lo_tooSoon) (jm_cd mY_Lo_tooSoon) (jm_ml mY_Lo_tooSoon) (jm_rt mY_Lo_tooSoon) ∈ jm_tbl := jm_in (List.mem_of_getElem? (i := 642) (by decide +kernel)) rfl
theorem ok_Lo_tooSoon : jm_ok mY_Lo_tooSoon 2 := ⟨by decide, rfl, cw_Lo_tooSoon, ini_Lo, by decide +kernel⟩
def mY_Lo_earliestHead : jm_Y := (⟨"LyingBeacons$Logbook", "earliestHead", "(LLyingBeacons$Net;)I"⟩, prog_4_method_9_code, 3, some .int, { frames := 1, cells := 0, slots := 0, locals := 21 }, none)
theorem cw_Lo_earliestHead : Cond.code (jm_nm mY_Lo_earliestHead) (jm_cd mY_Lo_earliestHead) (jm_ml mY_Lo_earliestHead) (jm_rt mY_Lo_earliestHead) ∈ jm_tbl := jm_in (List.mem_of_getElem? (i := 645) (by decide +kernel)) rfl
theorem ok_Lo_earliestHead : jm_ok mY_Lo_earliestHead 1 := ⟨by decide, rfl, cw_Lo_earliestHead, ini_Lo, by decide +kernel⟩
theorem ml_Lo_62 : Cond.methodLink "LyingBeacons$Logbook" 62 ⟨"java/lang/Math", "min", "(II)I"⟩ ∈ jm_tbl := jm_in (List.mem_of_getElem? (i := 646) (by decide +kernel)) rfl
theorem l0_Lo_tooSoon__Lo_earliestHead : jm_l0 mY_Lo_tooSoon mY_Lo_earliestHead := ⟨⟨Nat.le_of_ble_eq_true rfl, Nat.le_of_ble_eq_true rfl⟩, rfl, rfl⟩
def mY_Co_spreadFromAllHeads : jm_Y := (⟨"LyingBeacons$Council", "spreadFromAllHeads", "()V"⟩, prog_2_method_9_code, 1, none, { frames := 3, cells := 0, slots := 0, locals := 71 }, none)
theorem cw_Co_spreadFromAllHeads : Cond.code (jm_nm mY_Co_spreadFromAllHeads) (jm_cd mY_Co_spreadFromAllHeads) (jm_ml mY_Co_spreadFromAllHeads) (jm_rt mY_Co_spreadFromAllHeads) ∈ jm_tbl := jm_in (List.mem_of_getElem? (i := 650) (by decide +kernel)) rfl
theorem ok_Co_spreadFromAllHeads : jm_ok mY_Co_spreadFromAllHeads 0 := ⟨by decide, rfl, cw_Co_spreadFromAllHeads, ini_Co, by decide +kernel⟩
theorem l0_Co_spreadFromAllHeads__Co_spread : jm_l0 mY_Co_spreadFromAllHeads mY_Co_spread := ⟨⟨Nat.le_of_ble_eq_true rfl, Nat.le_of_ble_eq_true rfl⟩, rfl, rfl⟩
theorem l0_Lo_tooSoon__Co_spreadFromAllHeads : jm_l0 mY_Lo_tooSoon mY_Co_spreadFromAllHeads := ⟨⟨Nat.le_of_ble_eq_true rfl, Nat.le_of_ble_eq_true rfl⟩, rfl, rfl⟩
theorem l0_Lo_tooSoon__Lo_isBurning : jm_l0 mY_Lo_tooSoon mY_Lo_isBurning := ⟨⟨Nat.le_of_ble_eq_true rfl, Nat.le_of_ble_eq_true rfl⟩, rfl, rfl⟩
def mY_Co_burnsFrom : jm_Y := (⟨"LyingBeacons$Council", "burnsFrom", "(I)I"⟩, prog_2_method_10_code, 3, some .int, { frames := 0, cells := 0, slots := 0, locals := 0 }, none)
theorem cw_Co_burnsFrom : Cond.code (jm_nm mY_Co_burnsFrom) (jm_cd mY_Co_burnsFrom) (jm_ml mY_Co_burnsFrom) (jm_rt mY_Co_burnsFrom) ∈ jm_tbl := jm_in (List.mem_of_getElem? (i := 654) (by decide +kernel)) rfl
theorem ok_Co_burnsFrom : jm_ok mY_Co_burnsFrom 1 := ⟨by decide, rfl, cw_Co_burnsFrom, ini_Co, by decide +kernel⟩
theorem l0_Lo_tooSoon__Co_burnsFrom : jm_l0 mY_Lo_tooSoon mY_Co_burnsFrom := ⟨⟨Nat.le_of_ble_eq_true rfl, Nat.le_of_ble_eq_true rfl⟩, rfl, rfl⟩
theorem ml_Lo_59 : Cond.methodLink "LyingBeacons$Logbook" 59 ⟨"LyingBeacons$Council", "burnsFrom", "(I)I"⟩ ∈ jm_tbl := jm_in (List.mem_of_getElem? (i := 651) (by decide +kernel)) rfl
theorem im_Co_burnsFrom : Cond.instanceMethod ⟨"LyingBeacons$Council", "burnsFrom", "(I)I"⟩ ∈ jm_tbl := jm_in (List.mem_of_getElem? (i := 652) (by decide +kernel)) rfl
theorem se_Co_burnsFrom : Cond.selects "LyingBeacons$Council" ⟨"LyingBeacons$Council", "burnsFrom", "(I)I"⟩ ⟨"LyingBeacons$Council", "burnsFrom", "(I)I"⟩ ∈ jm_tbl := jm_in (List.mem_of_getElem? (i := 653) (by decide +kernel)) rfl
theorem ml_Lo_54 : Cond.methodLink "LyingBeacons$Logbook" 54 ⟨"LyingBeacons$Council", "spreadFromAllHeads", "()V"⟩ ∈ jm_tbl := jm_in (List.mem_of_getElem? (i := 647) (by decide +kernel)) rfl
theorem im_Co_spreadFromAllHeads : Cond.instanceMethod ⟨"LyingBeacons$Council", "spreadFromAllHeads", "()V"⟩ ∈ jm_tbl := jm_in (List.mem_of_getElem? (i := 648) (by decide +kernel)) rfl
theorem se_Co_spreadFromAllHeads : Cond.selects "LyingBeacons$Council" ⟨"LyingBeacons$Council", "spreadFromAllHeads", "()V"⟩ ⟨"LyingBeacons$Council", "spreadFromAllHeads", "()V"⟩ ∈ jm_tbl := jm_in (List.mem_of_getElem? (i := 649) (by decide +kernel)) rfl
theorem ml_Lo_50 : Cond.methodLink "LyingBeacons$Logbook" 50 ⟨"LyingBeacons$Logbook", "earliestHead", "(LLyingBeacons$Net;)I"⟩ ∈ jm_tbl := jm_in (List.mem_of_getElem? (i := 643) (by decide +kernel)) rfl
theorem sm_Lo_earliestHead : Cond.static ⟨"LyingBeacons$Logbook", "earliestHead", "(LLyingBeacons$Net;)I"⟩ ∈ jm_tbl := jm_in (List.mem_of_getElem? (i := 644) (by decide +kernel)) rfl
theorem l0_X_logs__Lo_tooSoon : jm_l0 mY_X_logs mY_Lo_tooSoon := ⟨⟨Nat.le_of_ble_eq_true rfl, Nat.le_of_ble_eq_true rfl⟩, rfl, rfl⟩
theorem ml_X_211 : Cond.methodLink "LyingBeacons" 211 ⟨"LyingBeacons$Logbook", "tooSoon", "(LLyingBeacons$Net;LLyingBeacons$Council;)I"⟩ ∈ jm_tbl := jm_in (List.mem_of_getElem? (i := 640) (by decide +kernel)) rfl
theorem sm_Lo_tooSoon : Cond.static ⟨"LyingBeacons$Logbook", "tooSoon", "(LLyingBeacons$Net;LLyingBeacons$Council;)I"⟩ ∈ jm_tbl := jm_in (List.mem_of_getElem? (i := 641) (by decide +kernel)) rfl
theorem l0_Law__X_logs (L : Nat) (xs : Nat → Int32) : jm_l0 (mY_Law L xs) mY_X_logs := ⟨⟨Nat.le_of_ble_eq_true rfl, Nat.le_of_ble_eq_true rfl⟩, rfl, rfl⟩
def mY_Z_logs : jm_Y := (⟨"LyingBeaconsModel", "logs", "(I)I"⟩, prog_11_method_59_code, 2, some .int, { frames := 4, cells := 0, slots := 0, locals := 99 }, none)
theorem cw_Z_logs : Cond.code (jm_nm mY_Z_logs) (jm_cd mY_Z_logs) (jm_ml mY_Z_logs) (jm_rt mY_Z_logs) ∈ jm_tbl := jm_in (List.mem_of_getElem? (i := 1074) (by decide +kernel)) rfl
theorem ok_Z_logs : jm_ok mY_Z_logs 1 := ⟨by decide, rfl, cw_Z_logs, ini_Z, by decide +kernel⟩
def mY_Z_causes : jm_Y := (⟨"LyingBeaconsModel", "causes", "(I)I"⟩, prog_11_method_56_code, 4, some .int, { frames := 2, cells := 0, slots := 0, locals := 51 }, none)
theorem cw_Z_causes : Cond.code (jm_nm mY_Z_causes) (jm_cd mY_Z_causes) (jm_ml mY_Z_causes) (jm_rt mY_Z_causes) ∈ jm_tbl := jm_in (List.mem_of_getElem? (i := 1078) (by decide +kernel)) rfl
theorem ok_Z_causes : jm_ok mY_Z_causes 1 := ⟨by decide, rfl, cw_Z_causes, ini_Z, by decide +kernel⟩
def mY_Z_cause : jm_Y := (⟨"LyingBeaconsModel", "cause", "(I)I"⟩, prog_11_method_55_code, 7, some .int, { frames := 1, cells := 0, slots := 0, locals := 25 }, none)
theorem cw_Z_cause : Cond.code (jm_nm mY_Z_cause) (jm_cd mY_Z_cause) (jm_ml mY_Z_cause) (jm_rt mY_Z_cause) ∈ jm_tbl := jm_in (List.mem_of_getElem? (i := 1082) (by decide +kernel)) rfl
theorem ok_Z_cause : jm_ok mY_Z_cause 1 := ⟨by decide, rfl, cw_Z_cause, ini_Z, by decide +kernel⟩
theorem l0_Z_cause__Z_in : jm_l0 mY_Z_cause mY_Z_in := ⟨⟨Nat.le_of_ble_eq_true rfl, Nat.le_of_ble_eq_true rfl⟩, rfl, rfl⟩
theorem l0_Z_cause__Z_has : jm_l0 mY_Z_cause mY_Z_has := ⟨⟨Nat.le_of_ble_eq_true rfl, Nat.le_of_ble_eq_true rfl⟩, rfl, rfl⟩
theorem l0_Z_causes__Z_cause : jm_l0 mY_Z_causes mY_Z_cause := ⟨⟨Nat.le_of_ble_eq_true rfl, Nat.le_of_ble_eq_true rfl⟩, rfl, rfl⟩
theorem ml_Z_235 : Cond.methodLink "LyingBeaconsModel" 235 ⟨"LyingBeaconsModel", "cause", "(I)I"⟩ ∈ jm_tbl := jm_in (List.mem_of_getElem? (i := 1079) (by decide +kernel)) rfl
theorem im_Z_cause : Cond.instanceMethod ⟨"LyingBeaconsModel", "cause", "(I)I"⟩ ∈ jm_tbl := jm_in (List.mem_of_getElem? (i := 1081) (by decide +kernel)) rfl
theorem se_Z_cause : Cond.selects "LyingBeaconsModel" ⟨"LyingBeaconsModel", "cause", "(I)I"⟩ ⟨"LyingBeaconsModel", "cause", "(I)I"⟩ ∈ jm_tbl := jm_in (List.mem_of_getElem? (i := 57) (by decide +kernel)) rfl
theorem l0_Z_logs__Z_causes : jm_l0 mY_Z_logs mY_Z_causes := ⟨⟨Nat.le_of_ble_eq_true rfl, Nat.le_of_ble_eq_true rfl⟩, rfl, rfl⟩
theorem ml_Z_238 : Cond.methodLink "LyingBeaconsModel" 238 ⟨"LyingBeaconsModel", "causes", "(I)I"⟩ ∈ jm_tbl := jm_in (List.mem_of_getElem? (i := 1075) (by decide +kernel)) rfl
theorem im_Z_causes : Cond.instanceMethod ⟨"LyingBeaconsModel", "causes", "(I)I"⟩ ∈ jm_tbl := jm_in (List.mem_of_getElem? (i := 1077) (by decide +kernel)) rfl
theorem se_Z_causes : Cond.selects "LyingBeaconsModel" ⟨"LyingBeaconsModel", "causes", "(I)I"⟩ ⟨"LyingBeaconsModel", "causes", "(I)I"⟩ ∈ jm_tbl := jm_in (List.mem_of_getElem? (i := 56) (by decide +kernel)) rfl
def mY_Z_asked : jm_Y := (⟨"LyingBeaconsModel", "asked", "()I"⟩, prog_11_method_57_code, 6, some .int, { frames := 3, cells := 0, slots := 0, locals := 74 }, none)
theorem cw_Z_asked : Cond.code (jm_nm mY_Z_asked) (jm_cd mY_Z_asked) (jm_ml mY_Z_asked) (jm_rt mY_Z_asked) ∈ jm_tbl := jm_in (List.mem_of_getElem? (i := 1086) (by decide +kernel)) rfl
theorem ok_Z_asked : jm_ok mY_Z_asked 0 := ⟨by decide, rfl, cw_Z_asked, ini_Z, by decide +kernel⟩
theorem l0_Z_asked__Z_causes : jm_l0 mY_Z_asked mY_Z_causes := ⟨⟨Nat.le_of_ble_eq_true rfl, Nat.le_of_ble_eq_true rfl⟩, rfl, rfl⟩
theorem l0_Z_asked__Z_bits : jm_l0 mY_Z_asked mY_Z_bits := ⟨⟨Nat.le_of_ble_eq_true rfl, Nat.le_of_ble_eq_true rfl⟩, rfl, rfl⟩
theorem l0_Z_logs__Z_asked : jm_l0 mY_Z_logs mY_Z_asked := ⟨⟨Nat.le_of_ble_eq_true rfl, Nat.le_of_ble_eq_true rfl⟩, rfl, rfl⟩
theorem ml_Z_241 : Cond.methodLink "LyingBeaconsModel" 241 ⟨"LyingBeaconsModel", "asked", "()I"⟩ ∈ jm_tbl := jm_in (List.mem_of_getElem? (i := 1083) (by decide +kernel)) rfl
theorem im_Z_asked : Cond.instanceMethod ⟨"LyingBeaconsModel", "asked", "()I"⟩ ∈ jm_tbl := jm_in (List.mem_of_getElem? (i := 1085) (by decide +kernel)) rfl
theorem se_Z_asked : Cond.selects "LyingBeaconsModel" ⟨"LyingBeaconsModel", "asked", "()I"⟩ ⟨"LyingBeaconsModel", "asked", "()I"⟩ ∈ jm_tbl := jm_in (List.mem_of_getElem? (i := 58) (by decide +kernel)) rfl
def mY_Z_soon : jm_Y := (⟨"LyingBeaconsModel", "soon", "()I"⟩, prog_11_method_58_code, 5, some .int, { frames := 3, cells := 0, slots := 0, locals := 71 }, none)
theorem cw_Z_soon : Cond.code (jm_nm mY_Z_soon) (jm_cd mY_Z_soon) (jm_ml mY_Z_soon) (jm_rt mY_Z_soon) ∈ jm_tbl := jm_in (List.mem_of_getElem? (i := 1090) (by decide +kernel)) rfl
theorem ok_Z_soon : jm_ok mY_Z_soon 0 := ⟨by decide, rfl, cw_Z_soon, ini_Z, by decide +kernel⟩
theorem l0_Z_soon__Z_asTold : jm_l0 mY_Z_soon mY_Z_asTold := ⟨⟨Nat.le_of_ble_eq_true rfl, Nat.le_of_ble_eq_true rfl⟩, rfl, rfl⟩
theorem l0_Z_soon__Z_ofKind : jm_l0 mY_Z_soon mY_Z_ofKind := ⟨⟨Nat.le_of_ble_eq_true rfl, Nat.le_of_ble_eq_true rfl⟩, rfl, rfl⟩
theorem l0_Z_soon__Z_kindle : jm_l0 mY_Z_soon mY_Z_kindle := ⟨⟨Nat.le_of_ble_eq_true rfl, Nat.le_of_ble_eq_true rfl⟩, rfl, rfl⟩
theorem l0_Z_soon__Z_spread : jm_l0 mY_Z_soon mY_Z_spread := ⟨⟨Nat.le_of_ble_eq_true rfl, Nat.le_of_ble_eq_true rfl⟩, rfl, rfl⟩
theorem l0_Z_soon__Z_in : jm_l0 mY_Z_soon mY_Z_in := ⟨⟨Nat.le_of_ble_eq_true rfl, Nat.le_of_ble_eq_true rfl⟩, rfl, rfl⟩
theorem l0_Z_logs__Z_soon : jm_l0 mY_Z_logs mY_Z_soon := ⟨⟨Nat.le_of_ble_eq_true rfl, Nat.le_of_ble_eq_true rfl⟩, rfl, rfl⟩
theorem ml_Z_244 : Cond.methodLink "LyingBeaconsModel" 244 ⟨"LyingBeaconsModel", "soon", "()I"⟩ ∈ jm_tbl := jm_in (List.mem_of_getElem? (i := 1087) (by decide +kernel)) rfl
theorem im_Z_soon : Cond.instanceMethod ⟨"LyingBeaconsModel", "soon", "()I"⟩ ∈ jm_tbl := jm_in (List.mem_of_getElem? (i := 1089) (by decide +kernel)) rfl
theorem se_Z_soon : Cond.selects "LyingBeaconsModel" ⟨"LyingBeaconsModel", "soon", "()I"⟩ ⟨"LyingBeaconsModel", "soon", "()I"⟩ ∈ jm_tbl := jm_in (List.mem_of_getElem? (i := 59) (by decide +kernel)) rfl
theorem l0_Law__Z_logs (L : Nat) (xs : Nat → Int32) : jm_l0 (mY_Law L xs) mY_Z_logs := ⟨⟨Nat.le_of_ble_eq_true rfl, Nat.le_of_ble_eq_true rfl⟩, rfl, rfl⟩
theorem ml_Law_95 : Cond.methodLink "LyingBeaconsLaw" 95 ⟨"LyingBeaconsModel", "logs", "(I)I"⟩ ∈ jm_tbl := jm_in (List.mem_of_getElem? (i := 1071) (by decide +kernel)) rfl
theorem im_Z_logs : Cond.instanceMethod ⟨"LyingBeaconsModel", "logs", "(I)I"⟩ ∈ jm_tbl := jm_in (List.mem_of_getElem? (i := 1072) (by decide +kernel)) rfl
theorem se_Z_logs : Cond.selects "LyingBeaconsModel" ⟨"LyingBeaconsModel", "logs", "(I)I"⟩ ⟨"LyingBeaconsModel", "logs", "(I)I"⟩ ∈ jm_tbl := jm_in (List.mem_of_getElem? (i := 1073) (by decide +kernel)) rfl
theorem ml_Law_92 : Cond.methodLink "LyingBeaconsLaw" 92 ⟨"LyingBeacons", "logs", "(I)I"⟩ ∈ jm_tbl := jm_in (List.mem_of_getElem? (i := 616) (by decide +kernel)) rfl
theorem im_X_logs : Cond.instanceMethod ⟨"LyingBeacons", "logs", "(I)I"⟩ ∈ jm_tbl := jm_in (List.mem_of_getElem? (i := 617) (by decide +kernel)) rfl
theorem se_X_logs : Cond.selects "LyingBeacons" ⟨"LyingBeacons", "logs", "(I)I"⟩ ⟨"LyingBeacons", "logs", "(I)I"⟩ ∈ jm_tbl := jm_in (List.mem_of_getElem? (i := 618) (by decide +kernel)) rfl
def mY_X_sign : jm_Y := (⟨"LyingBeacons", "sign", "(III)I"⟩, prog_1_method_21_code, 5, some .int, { frames := 2, cells := 0, slots := 0, locals := 43 }, none)
theorem cw_X_sign : Cond.code (jm_nm mY_X_sign) (jm_cd mY_X_sign) (jm_ml mY_X_sign) (jm_rt mY_X_sign) ∈ jm_tbl := jm_in (List.mem_of_getElem? (i := 658) (by decide +kernel)) rfl
theorem ok_X_sign : jm_ok mY_X_sign 3 := ⟨by decide, rfl, cw_X_sign, ini_X, by decide +kernel⟩
def mY_X_isSign : jm_Y := (⟨"LyingBeacons", "isSign", "(I)Z"⟩, prog_1_method_33_code, 1, some .boolean, { frames := 0, cells := 0, slots := 0, locals := 0 }, none)
theorem cw_X_isSign : Cond.code (jm_nm mY_X_isSign) (jm_cd mY_X_isSign) (jm_ml mY_X_isSign) (jm_rt mY_X_isSign) ∈ jm_tbl := jm_in (List.mem_of_getElem? (i := 661) (by decide +kernel)) rfl
theorem ok_X_isSign : jm_ok mY_X_isSign 1 := ⟨by decide, rfl, cw_X_isSign, ini_X, by decide +kernel⟩
theorem l0_X_sign__X_isSign : jm_l0 mY_X_sign mY_X_isSign := ⟨⟨Nat.le_of_ble_eq_true rfl, Nat.le_of_ble_eq_true rfl⟩, rfl, rfl⟩
theorem cb_12 : (Int8.ofInt 12).toInt32 = (12 : Int32) := by decide
theorem mr_154_1_11 : mr_154 1 11 = some 53 := by decide
def mY_Si_firesIn : jm_Y := (⟨"LyingBeacons$Signs", "firesIn", "(II)I"⟩, prog_8_method_2_code, 3, some .int, { frames := 1, cells := 0, slots := 0, locals := 20 }, none)
theorem cw_Si_firesIn : Cond.code (jm_nm mY_Si_firesIn) (jm_cd mY_Si_firesIn) (jm_ml mY_Si_firesIn) (jm_rt mY_Si_firesIn) ∈ jm_tbl := jm_in (List.mem_of_getElem? (i := 665) (by decide +kernel)) rfl
theorem ok_Si_firesIn : jm_ok mY_Si_firesIn 2 := ⟨by decide, rfl, cw_Si_firesIn, ini_Si, by decide +kernel⟩
theorem l0_Si_firesIn__X_isSign : jm_l0 mY_Si_firesIn mY_X_isSign := ⟨⟨Nat.le_of_ble_eq_true rfl, Nat.le_of_ble_eq_true rfl⟩, rfl, rfl⟩
theorem le_53_78 : 53 ≤ 78 := by decide
theorem mr_154_53_0 : mr_154 53 0 = some 54 := by decide
theorem le_54_78 : 54 ≤ 78 := by decide
theorem nl_Si_15 : (("LyingBeacons$Signs", 15, ⟨"LyingBeacons", "isSign", "(I)Z"⟩, "LyingBeacons") : String × Nat × MethodName × String) ∈ jm_nest := by decide +kernel
theorem sm_X_isSign : Cond.static ⟨"LyingBeacons", "isSign", "(I)Z"⟩ ∈ jm_tbl := jm_in (List.mem_of_getElem? (i := 660) (by decide +kernel)) rfl
theorem l0_X_sign__Si_firesIn : jm_l0 mY_X_sign mY_Si_firesIn := ⟨⟨Nat.le_of_ble_eq_true rfl, Nat.le_of_ble_eq_true rfl⟩, rfl, rfl⟩
def mY_Si_setFires : jm_Y := (⟨"LyingBeacons$Signs", "setFires", "(III)V"⟩, prog_8_method_3_code, 4, none, { frames := 1, cells := 0, slots := 0, locals := 20 }, none)
theorem cw_Si_setFires : Cond.code (jm_nm mY_Si_setFires) (jm_cd mY_Si_setFires) (jm_ml mY_Si_setFires) (jm_rt mY_Si_setFires) ∈ jm_tbl := jm_in (List.mem_of_getElem? (i := 670) (by decide +kernel)) rfl
theorem ok_Si_setFires : jm_ok mY_Si_setFires 3 := ⟨by decide, rfl, cw_Si_setFires, ini_Si, by decide +kernel⟩
theorem l0_Si_setFires__X_isSign : jm_l0 mY_Si_setFires mY_X_isSign := ⟨⟨Nat.le_of_ble_eq_true rfl, Nat.le_of_ble_eq_true rfl⟩, rfl, rfl⟩
theorem l0_X_sign__Si_setFires : jm_l0 mY_X_sign mY_Si_setFires := ⟨⟨Nat.le_of_ble_eq_true rfl, Nat.le_of_ble_eq_true rfl⟩, rfl, rfl⟩
theorem ml_X_221 : Cond.methodLink "LyingBeacons" 221 ⟨"LyingBeacons$Signs", "setFires", "(III)V"⟩ ∈ jm_tbl := jm_in (List.mem_of_getElem? (i := 667) (by decide +kernel)) rfl
theorem im_Si_setFires : Cond.instanceMethod ⟨"LyingBeacons$Signs", "setFires", "(III)V"⟩ ∈ jm_tbl := jm_in (List.mem_of_getElem? (i := 668) (by decide +kernel)) rfl
theorem se_Si_setFires : Cond.selects "LyingBeacons$Signs" ⟨"LyingBeacons$Signs", "setFires", "(III)V"⟩ ⟨"LyingBeacons$Signs", "setFires", "(III)V"⟩ ∈ jm_tbl := jm_in (List.mem_of_getElem? (i := 669) (by decide +kernel)) rfl
theorem ml_X_218 : Cond.methodLink "LyingBeacons" 218 ⟨"LyingBeacons$Signs", "firesIn", "(II)I"⟩ ∈ jm_tbl := jm_in (List.mem_of_getElem? (i := 662) (by decide +kernel)) rfl
theorem im_Si_firesIn : Cond.instanceMethod ⟨"LyingBeacons$Signs", "firesIn", "(II)I"⟩ ∈ jm_tbl := jm_in (List.mem_of_getElem? (i := 663) (by decide +kernel)) rfl
theorem se_Si_firesIn : Cond.selects "LyingBeacons$Signs" ⟨"LyingBeacons$Signs", "firesIn", "(II)I"⟩ ⟨"LyingBeacons$Signs", "firesIn", "(II)I"⟩ ∈ jm_tbl := jm_in (List.mem_of_getElem? (i := 664) (by decide +kernel)) rfl
theorem ml_X_215 : Cond.methodLink "LyingBeacons" 215 ⟨"LyingBeacons", "isSign", "(I)Z"⟩ ∈ jm_tbl := jm_in (List.mem_of_getElem? (i := 659) (by decide +kernel)) rfl
theorem l0_Law__X_sign (L : Nat) (xs : Nat → Int32) : jm_l0 (mY_Law L xs) mY_X_sign := ⟨⟨Nat.le_of_ble_eq_true rfl, Nat.le_of_ble_eq_true rfl⟩, rfl, rfl⟩
def mY_Z_sign : jm_Y := (⟨"LyingBeaconsModel", "sign", "(III)I"⟩, prog_11_method_60_code, 5, some .int, { frames := 1, cells := 0, slots := 0, locals := 25 }, none)
theorem cw_Z_sign : Cond.code (jm_nm mY_Z_sign) (jm_cd mY_Z_sign) (jm_ml mY_Z_sign) (jm_rt mY_Z_sign) ∈ jm_tbl := jm_in (List.mem_of_getElem? (i := 1094) (by decide +kernel)) rfl
theorem ok_Z_sign : jm_ok mY_Z_sign 3 := ⟨by decide, rfl, cw_Z_sign, ini_Z, by decide +kernel⟩
theorem kl_Z_247 : Cond.constantLong "LyingBeaconsModel" 247 (5 : Int64) ∈ jm_tbl := jm_in (List.mem_of_getElem? (i := 1095) (by decide +kernel)) rfl
theorem l0_Z_sign__Z_in : jm_l0 mY_Z_sign mY_Z_in := ⟨⟨Nat.le_of_ble_eq_true rfl, Nat.le_of_ble_eq_true rfl⟩, rfl, rfl⟩
theorem kl_Z_249 : Cond.constantLong "LyingBeaconsModel" 249 (11 : Int64) ∈ jm_tbl := jm_in (List.mem_of_getElem? (i := 1096) (by decide +kernel)) rfl
theorem kl_Z_251 : Cond.constantLong "LyingBeaconsModel" 251 (3 : Int64) ∈ jm_tbl := jm_in (List.mem_of_getElem? (i := 1097) (by decide +kernel)) rfl
theorem mr_154_59_13 : mr_154 59 13 = some 71 := by decide
theorem le_71_78 : 71 ≤ 78 := by decide
theorem l0_Law__Z_sign (L : Nat) (xs : Nat → Int32) : jm_l0 (mY_Law L xs) mY_Z_sign := ⟨⟨Nat.le_of_ble_eq_true rfl, Nat.le_of_ble_eq_true rfl⟩, rfl, rfl⟩
theorem ml_Law_99 : Cond.methodLink "LyingBeaconsLaw" 99 ⟨"LyingBeaconsModel", "sign", "(III)I"⟩ ∈ jm_tbl := jm_in (List.mem_of_getElem? (i := 1091) (by decide +kernel)) rfl
theorem im_Z_sign : Cond.instanceMethod ⟨"LyingBeaconsModel", "sign", "(III)I"⟩ ∈ jm_tbl := jm_in (List.mem_of_getElem? (i := 1092) (by decide +kernel)) rfl
theorem se_Z_sign : Cond.selects "LyingBeaconsModel" ⟨"LyingBeaconsModel", "sign", "(III)I"⟩ ⟨"LyingBeaconsModel", "sign", "(III)I"⟩ ∈ jm_tbl := jm_in (List.mem_of_getElem? (i := 1093) (by decide +kernel)) rfl
theorem ml_Law_96 : Cond.methodLink "LyingBeaconsLaw" 96 ⟨"LyingBeacons", "sign", "(III)I"⟩ ∈ jm_tbl := jm_in (List.mem_of_getElem? (i := 655) (by decide +kernel)) rfl
theorem im_X_sign : Cond.instanceMethod ⟨"LyingBeacons", "sign", "(III)I"⟩ ∈ jm_tbl := jm_in (List.mem_of_getElem? (i := 656) (by decide +kernel)) rfl
theorem se_X_sign : Cond.selects "LyingBeacons" ⟨"LyingBeacons", "sign", "(III)I"⟩ ⟨"LyingBeacons", "sign", "(III)I"⟩ ∈ jm_tbl := jm_in (List.mem_of_getElem? (i := 657) (by decide +kernel)) rfl
def mY_X_near : jm_Y := (⟨"LyingBeacons", "near", "(II)I"⟩, prog_1_method_22_code, 3, some .int, { frames := 4, cells := 0, slots := 0, locals := 93 }, none)
theorem cw_X_near : Cond.code (jm_nm mY_X_near) (jm_cd mY_X_near) (jm_ml mY_X_near) (jm_rt mY_X_near) ∈ jm_tbl := jm_in (List.mem_of_getElem? (i := 674) (by decide +kernel)) rfl
theorem ok_X_near : jm_ok mY_X_near 2 := ⟨by decide, rfl, cw_X_near, ini_X, by decide +kernel⟩
theorem l0_X_near__X_isSign : jm_l0 mY_X_near mY_X_isSign := ⟨⟨Nat.le_of_ble_eq_true rfl, Nat.le_of_ble_eq_true rfl⟩, rfl, rfl⟩
def mY_Si_fewestTaken : jm_Y := (⟨"LyingBeacons$Signs", "fewestTaken", "(II)I"⟩, prog_8_method_4_code, 5, some .int, { frames := 3, cells := 0, slots := 0, locals := 69 }, none)
theorem cw_Si_fewestTaken : Cond.code (jm_nm mY_Si_fewestTaken) (jm_cd mY_Si_fewestTaken) (jm_ml mY_Si_fewestTaken) (jm_rt mY_Si_fewestTaken) ∈ jm_tbl := jm_in (List.mem_of_getElem? (i := 678) (by decide +kernel)) rfl
theorem ok_Si_fewestTaken : jm_ok mY_Si_fewestTaken 2 := ⟨by decide, rfl, cw_Si_fewestTaken, ini_Si, by decide +kernel⟩
theorem cb_24 : (Int8.ofInt 24).toInt32 = (24 : Int32) := by decide
def mY_Si_takenIfMoved : jm_Y := (⟨"LyingBeacons$Signs", "takenIfMoved", "(III)I"⟩, prog_8_method_5_code, 8, some .int, { frames := 2, cells := 0, slots := 0, locals := 42 }, none)
theorem cw_Si_takenIfMoved : Cond.code (jm_nm mY_Si_takenIfMoved) (jm_cd mY_Si_takenIfMoved) (jm_ml mY_Si_takenIfMoved) (jm_rt mY_Si_takenIfMoved) ∈ jm_tbl := jm_in (List.mem_of_getElem? (i := 682) (by decide +kernel)) rfl
theorem ok_Si_takenIfMoved : jm_ok mY_Si_takenIfMoved 3 := ⟨by decide, rfl, cw_Si_takenIfMoved, ini_Si, by decide +kernel⟩
theorem cb_15 : (Int8.ofInt 15).toInt32 = (15 : Int32) := by decide
theorem l0_Si_takenIfMoved__Si_firesIn : jm_l0 mY_Si_takenIfMoved mY_Si_firesIn := ⟨⟨Nat.le_of_ble_eq_true rfl, Nat.le_of_ble_eq_true rfl⟩, rfl, rfl⟩
theorem ml_Si_29 : Cond.methodLink "LyingBeacons$Signs" 29 ⟨"LyingBeacons$Signs", "firesIn", "(II)I"⟩ ∈ jm_tbl := jm_in (List.mem_of_getElem? (i := 683) (by decide +kernel)) rfl
theorem l0_Si_fewestTaken__Si_takenIfMoved : jm_l0 mY_Si_fewestTaken mY_Si_takenIfMoved := ⟨⟨Nat.le_of_ble_eq_true rfl, Nat.le_of_ble_eq_true rfl⟩, rfl, rfl⟩
theorem ml_Si_23 : Cond.methodLink "LyingBeacons$Signs" 23 ⟨"java/lang/Math", "min", "(II)I"⟩ ∈ jm_tbl := jm_in (List.mem_of_getElem? (i := 684) (by decide +kernel)) rfl
theorem ml_Si_19 : Cond.methodLink "LyingBeacons$Signs" 19 ⟨"LyingBeacons$Signs", "takenIfMoved", "(III)I"⟩ ∈ jm_tbl := jm_in (List.mem_of_getElem? (i := 679) (by decide +kernel)) rfl
theorem im_Si_takenIfMoved : Cond.instanceMethod ⟨"LyingBeacons$Signs", "takenIfMoved", "(III)I"⟩ ∈ jm_tbl := jm_in (List.mem_of_getElem? (i := 681) (by decide +kernel)) rfl
theorem se_Si_takenIfMoved : Cond.selects "LyingBeacons$Signs" ⟨"LyingBeacons$Signs", "takenIfMoved", "(III)I"⟩ ⟨"LyingBeacons$Signs", "takenIfMoved", "(III)I"⟩ ∈ jm_tbl := jm_in (List.mem_of_getElem? (i := 22) (by decide +kernel)) rfl
theorem l0_X_near__Si_fewestTaken : jm_l0 mY_X_near mY_Si_fewestTaken := ⟨⟨Nat.le_of_ble_eq_true rfl, Nat.le_of_ble_eq_true rfl⟩, rfl, rfl⟩
theorem ml_X_225 : Cond.methodLink "LyingBeacons" 225 ⟨"LyingBeacons$Signs", "fewestTaken", "(II)I"⟩ ∈ jm_tbl := jm_in (List.mem_of_getElem? (i := 675) (by decide +kernel)) rfl
theorem im_Si_fewestTaken : Cond.instanceMethod ⟨"LyingBeacons$Signs", "fewestTaken", "(II)I"⟩ ∈ jm_tbl := jm_in (List.mem_of_getElem? (i := 676) (by decide +kernel)) rfl
theorem se_Si_fewestTaken : Cond.selects "LyingBeacons$Signs" ⟨"LyingBeacons$Signs", "fewestTaken", "(II)I"⟩ ⟨"LyingBeacons$Signs", "fewestTaken", "(II)I"⟩ ∈ jm_tbl := jm_in (List.mem_of_getElem? (i := 677) (by decide +kernel)) rfl
theorem l0_Law__X_near (L : Nat) (xs : Nat → Int32) : jm_l0 (mY_Law L xs) mY_X_near := ⟨⟨Nat.le_of_ble_eq_true rfl, Nat.le_of_ble_eq_true rfl⟩, rfl, rfl⟩
def mY_Z_near : jm_Y := (⟨"LyingBeaconsModel", "near", "(II)I"⟩, prog_11_method_61_code, 9, some .int, { frames := 1, cells := 0, slots := 0, locals := 25 }, none)
theorem cw_Z_near : Cond.code (jm_nm mY_Z_near) (jm_cd mY_Z_near) (jm_ml mY_Z_near) (jm_rt mY_Z_near) ∈ jm_tbl := jm_in (List.mem_of_getElem? (i := 1101) (by decide +kernel)) rfl
theorem ok_Z_near : jm_ok mY_Z_near 2 := ⟨by decide, rfl, cw_Z_near, ini_Z, by decide +kernel⟩
theorem l0_Z_near__Z_in : jm_l0 mY_Z_near mY_Z_in := ⟨⟨Nat.le_of_ble_eq_true rfl, Nat.le_of_ble_eq_true rfl⟩, rfl, rfl⟩
theorem l0_Law__Z_near (L : Nat) (xs : Nat → Int32) : jm_l0 (mY_Law L xs) mY_Z_near := ⟨⟨Nat.le_of_ble_eq_true rfl, Nat.le_of_ble_eq_true rfl⟩, rfl, rfl⟩
theorem ml_Law_103 : Cond.methodLink "LyingBeaconsLaw" 103 ⟨"LyingBeaconsModel", "near", "(II)I"⟩ ∈ jm_tbl := jm_in (List.mem_of_getElem? (i := 1098) (by decide +kernel)) rfl
theorem im_Z_near : Cond.instanceMethod ⟨"LyingBeaconsModel", "near", "(II)I"⟩ ∈ jm_tbl := jm_in (List.mem_of_getElem? (i := 1099) (by decide +kernel)) rfl
theorem se_Z_near : Cond.selects "LyingBeaconsModel" ⟨"LyingBeaconsModel", "near", "(II)I"⟩ ⟨"LyingBeaconsModel", "near", "(II)I"⟩ ∈ jm_tbl := jm_in (List.mem_of_getElem? (i := 1100) (by decide +kernel)) rfl
theorem ml_Law_100 : Cond.methodLink "LyingBeaconsLaw" 100 ⟨"LyingBeacons", "near", "(II)I"⟩ ∈ jm_tbl := jm_in (List.mem_of_getElem? (i := 671) (by decide +kernel)) rfl
theorem im_X_near : Cond.instanceMethod ⟨"LyingBeacons", "near", "(II)I"⟩ ∈ jm_tbl := jm_in (List.mem_of_getElem? (i := 672) (by decide +kernel)) rfl
theorem se_X_near : Cond.selects "LyingBeacons" ⟨"LyingBeacons", "near", "(II)I"⟩ ⟨"LyingBeacons", "near", "(II)I"⟩ ∈ jm_tbl := jm_in (List.mem_of_getElem? (i := 673) (by decide +kernel)) rfl
def mY_X_watch : jm_Y := (⟨"LyingBeacons", "watch", "(IIIII)I"⟩, prog_1_method_23_code, 6, some .int, { frames := 2, cells := 0, slots := 0, locals := 48 }, none)
theorem cw_X_watch : Cond.code (jm_nm mY_X_watch) (jm_cd mY_X_watch) (jm_ml mY_X_watch) (jm_rt mY_X_watch) ∈ jm_tbl := jm_in (List.mem_of_getElem? (i := 688) (by decide +kernel)) rfl
theorem ok_X_watch : jm_ok mY_X_watch 5 := ⟨by decide, rfl, cw_X_watch, ini_X, by decide +kernel⟩
def mY_X_isMan : jm_Y := (⟨"LyingBeacons", "isMan", "(I)Z"⟩, prog_1_method_34_code, 1, some .boolean, { frames := 0, cells := 0, slots := 0, locals := 0 }, none)
theorem cw_X_isMan : Cond.code (jm_nm mY_X_isMan) (jm_cd mY_X_isMan) (jm_ml mY_X_isMan) (jm_rt mY_X_isMan) ∈ jm_tbl := jm_in (List.mem_of_getElem? (i := 691) (by decide +kernel)) rfl
theorem ok_X_isMan : jm_ok mY_X_isMan 1 := ⟨by decide, rfl, cw_X_isMan, ini_X, by decide +kernel⟩
theorem l0_X_watch__X_isMan : jm_l0 mY_X_watch mY_X_isMan := ⟨⟨Nat.le_of_ble_eq_true rfl, Nat.le_of_ble_eq_true rfl⟩, rfl, rfl⟩
theorem mr_154_1_12 : mr_154 1 12 = some 55 := by decide
def mY_Wa_come : jm_Y := (⟨"LyingBeacons$Watchmen", "come", "(IIII)V"⟩, prog_9_method_2_code, 5, none, { frames := 0, cells := 0, slots := 0, locals := 0 }, none)
theorem cw_Wa_come : Cond.code (jm_nm mY_Wa_come) (jm_cd mY_Wa_come) (jm_ml mY_Wa_come) (jm_rt mY_Wa_come) ∈ jm_tbl := jm_in (List.mem_of_getElem? (i := 695) (by decide +kernel)) rfl
theorem ok_Wa_come : jm_ok mY_Wa_come 4 := ⟨by decide, rfl, cw_Wa_come, ini_Wa, by decide +kernel⟩
theorem le_55_78 : 55 ≤ 78 := by decide
theorem mr_154_55_0 : mr_154 55 0 = some 56 := by decide
theorem le_56_78 : 56 ≤ 78 := by decide
theorem l0_X_watch__Wa_come : jm_l0 mY_X_watch mY_Wa_come := ⟨⟨Nat.le_of_ble_eq_true rfl, Nat.le_of_ble_eq_true rfl⟩, rfl, rfl⟩
def mY_Wa_hoursWatched : jm_Y := (⟨"LyingBeacons$Watchmen", "hoursWatched", "(I)I"⟩, prog_9_method_3_code, 5, some .int, { frames := 1, cells := 0, slots := 0, locals := 24 }, none)
theorem cw_Wa_hoursWatched : Cond.code (jm_nm mY_Wa_hoursWatched) (jm_cd mY_Wa_hoursWatched) (jm_ml mY_Wa_hoursWatched) (jm_rt mY_Wa_hoursWatched) ∈ jm_tbl := jm_in (List.mem_of_getElem? (i := 699) (by decide +kernel)) rfl
theorem ok_Wa_hoursWatched : jm_ok mY_Wa_hoursWatched 1 := ⟨by decide, rfl, cw_Wa_hoursWatched, ini_Wa, by decide +kernel⟩
def mY_Wa_nextAwake : jm_Y := (⟨"LyingBeacons$Watchmen", "nextAwake", "(I)I"⟩, prog_9_method_4_code, 5, some .int, { frames := 0, cells := 0, slots := 0, locals := 0 }, none)
theorem cw_Wa_nextAwake : Cond.code (jm_nm mY_Wa_nextAwake) (jm_cd mY_Wa_nextAwake) (jm_ml mY_Wa_nextAwake) (jm_rt mY_Wa_nextAwake) ∈ jm_tbl := jm_in (List.mem_of_getElem? (i := 703) (by decide +kernel)) rfl
theorem ok_Wa_nextAwake : jm_ok mY_Wa_nextAwake 1 := ⟨by decide, rfl, cw_Wa_nextAwake, ini_Wa, by decide +kernel⟩
theorem l0_Wa_hoursWatched__Wa_nextAwake : jm_l0 mY_Wa_hoursWatched mY_Wa_nextAwake := ⟨⟨Nat.le_of_ble_eq_true rfl, Nat.le_of_ble_eq_true rfl⟩, rfl, rfl⟩
theorem ml_Wa_15 : Cond.methodLink "LyingBeacons$Watchmen" 15 ⟨"LyingBeacons$Watchmen", "nextAwake", "(I)I"⟩ ∈ jm_tbl := jm_in (List.mem_of_getElem? (i := 700) (by decide +kernel)) rfl
theorem im_Wa_nextAwake : Cond.instanceMethod ⟨"LyingBeacons$Watchmen", "nextAwake", "(I)I"⟩ ∈ jm_tbl := jm_in (List.mem_of_getElem? (i := 702) (by decide +kernel)) rfl
theorem se_Wa_nextAwake : Cond.selects "LyingBeacons$Watchmen" ⟨"LyingBeacons$Watchmen", "nextAwake", "(I)I"⟩ ⟨"LyingBeacons$Watchmen", "nextAwake", "(I)I"⟩ ∈ jm_tbl := jm_in (List.mem_of_getElem? (i := 23) (by decide +kernel)) rfl
theorem l0_X_watch__Wa_hoursWatched : jm_l0 mY_X_watch mY_Wa_hoursWatched := ⟨⟨Nat.le_of_ble_eq_true rfl, Nat.le_of_ble_eq_true rfl⟩, rfl, rfl⟩
theorem ml_X_235 : Cond.methodLink "LyingBeacons" 235 ⟨"LyingBeacons$Watchmen", "hoursWatched", "(I)I"⟩ ∈ jm_tbl := jm_in (List.mem_of_getElem? (i := 696) (by decide +kernel)) rfl
theorem im_Wa_hoursWatched : Cond.instanceMethod ⟨"LyingBeacons$Watchmen", "hoursWatched", "(I)I"⟩ ∈ jm_tbl := jm_in (List.mem_of_getElem? (i := 697) (by decide +kernel)) rfl
theorem se_Wa_hoursWatched : Cond.selects "LyingBeacons$Watchmen" ⟨"LyingBeacons$Watchmen", "hoursWatched", "(I)I"⟩ ⟨"LyingBeacons$Watchmen", "hoursWatched", "(I)I"⟩ ∈ jm_tbl := jm_in (List.mem_of_getElem? (i := 698) (by decide +kernel)) rfl
theorem ml_X_231 : Cond.methodLink "LyingBeacons" 231 ⟨"LyingBeacons$Watchmen", "come", "(IIII)V"⟩ ∈ jm_tbl := jm_in (List.mem_of_getElem? (i := 692) (by decide +kernel)) rfl
theorem im_Wa_come : Cond.instanceMethod ⟨"LyingBeacons$Watchmen", "come", "(IIII)V"⟩ ∈ jm_tbl := jm_in (List.mem_of_getElem? (i := 693) (by decide +kernel)) rfl
theorem se_Wa_come : Cond.selects "LyingBeacons$Watchmen" ⟨"LyingBeacons$Watchmen", "come", "(IIII)V"⟩ ⟨"LyingBeacons$Watchmen", "come", "(IIII)V"⟩ ∈ jm_tbl := jm_in (List.mem_of_getElem? (i := 694) (by decide +kernel)) rfl
theorem ml_X_228 : Cond.methodLink "LyingBeacons" 228 ⟨"LyingBeacons", "isMan", "(I)Z"⟩ ∈ jm_tbl := jm_in (List.mem_of_getElem? (i := 689) (by decide +kernel)) rfl
theorem sm_X_isMan : Cond.static ⟨"LyingBeacons", "isMan", "(I)Z"⟩ ∈ jm_tbl := jm_in (List.mem_of_getElem? (i := 690) (by decide +kernel)) rfl
theorem l0_Law__X_watch (L : Nat) (xs : Nat → Int32) : jm_l0 (mY_Law L xs) mY_X_watch := ⟨⟨Nat.le_of_ble_eq_true rfl, Nat.le_of_ble_eq_true rfl⟩, rfl, rfl⟩
def mY_Z_watch : jm_Y := (⟨"LyingBeaconsModel", "watch", "(IIIII)I"⟩, prog_11_method_62_code, 11, some .int, { frames := 1, cells := 0, slots := 0, locals := 25 }, none)
theorem cw_Z_watch : Cond.code (jm_nm mY_Z_watch) (jm_cd mY_Z_watch) (jm_ml mY_Z_watch) (jm_rt mY_Z_watch) ∈ jm_tbl := jm_in (List.mem_of_getElem? (i := 1105) (by decide +kernel)) rfl
theorem ok_Z_watch : jm_ok mY_Z_watch 5 := ⟨by decide, rfl, cw_Z_watch, ini_Z, by decide +kernel⟩
theorem kl_Z_253 : Cond.constantLong "LyingBeaconsModel" 253 (12 : Int64) ∈ jm_tbl := jm_in (List.mem_of_getElem? (i := 1106) (by decide +kernel)) rfl
theorem l0_Z_watch__Z_in : jm_l0 mY_Z_watch mY_Z_in := ⟨⟨Nat.le_of_ble_eq_true rfl, Nat.le_of_ble_eq_true rfl⟩, rfl, rfl⟩
theorem mr_154_59_29 : mr_154 59 29 = some 78 := by decide
theorem le_78_78 : 78 ≤ 78 := by decide
theorem l0_Law__Z_watch (L : Nat) (xs : Nat → Int32) : jm_l0 (mY_Law L xs) mY_Z_watch := ⟨⟨Nat.le_of_ble_eq_true rfl, Nat.le_of_ble_eq_true rfl⟩, rfl, rfl⟩
theorem ml_Law_108 : Cond.methodLink "LyingBeaconsLaw" 108 ⟨"LyingBeaconsModel", "watch", "(IIIII)I"⟩ ∈ jm_tbl := jm_in (List.mem_of_getElem? (i := 1102) (by decide +kernel)) rfl
theorem im_Z_watch : Cond.instanceMethod ⟨"LyingBeaconsModel", "watch", "(IIIII)I"⟩ ∈ jm_tbl := jm_in (List.mem_of_getElem? (i := 1103) (by decide +kernel)) rfl
theorem se_Z_watch : Cond.selects "LyingBeaconsModel" ⟨"LyingBeaconsModel", "watch", "(IIIII)I"⟩ ⟨"LyingBeaconsModel", "watch", "(IIIII)I"⟩ ∈ jm_tbl := jm_in (List.mem_of_getElem? (i := 1104) (by decide +kernel)) rfl
theorem ml_Law_104 : Cond.methodLink "LyingBeaconsLaw" 104 ⟨"LyingBeacons", "watch", "(IIIII)I"⟩ ∈ jm_tbl := jm_in (List.mem_of_getElem? (i := 685) (by decide +kernel)) rfl
theorem im_X_watch : Cond.instanceMethod ⟨"LyingBeacons", "watch", "(IIIII)I"⟩ ∈ jm_tbl := jm_in (List.mem_of_getElem? (i := 686) (by decide +kernel)) rfl
theorem se_X_watch : Cond.selects "LyingBeacons" ⟨"LyingBeacons", "watch", "(IIIII)I"⟩ ⟨"LyingBeacons", "watch", "(IIIII)I"⟩ ∈ jm_tbl := jm_in (List.mem_of_getElem? (i := 687) (by decide +kernel)) rfl
def mY_X_cost : jm_Y := (⟨"LyingBeacons", "cost", "(II)I"⟩, prog_1_method_24_code, 4, some .int, { frames := 0, cells := 0, slots := 0, locals := 0 }, none)
theorem cw_X_cost : Cond.code (jm_nm mY_X_cost) (jm_cd mY_X_cost) (jm_ml mY_X_cost) (jm_rt mY_X_cost) ∈ jm_tbl := jm_in (List.mem_of_getElem? (i := 707) (by decide +kernel)) rfl
theorem ok_X_cost : jm_ok mY_X_cost 2 := ⟨by decide, rfl, cw_X_cost, ini_X, by decide +kernel⟩
theorem mr_154_1_13 : mr_154 1 13 = some 57 := by decide
theorem fo_X_238 : jm_fo "LyingBeacons" 238 1 0 RX1 TX1 1 := ⟨inY1, rfl, by decide, jm_in (List.mem_of_getElem? (i := 281) (by decide +kernel)) rfl⟩
theorem le_57_78 : 57 ≤ 78 := by decide
theorem mr_154_57_0 : mr_154 57 0 = some 58 := by decide
theorem le_58_78 : 58 ≤ 78 := by decide
theorem l0_Law__X_cost (L : Nat) (xs : Nat → Int32) : jm_l0 (mY_Law L xs) mY_X_cost := ⟨⟨Nat.le_of_ble_eq_true rfl, Nat.le_of_ble_eq_true rfl⟩, rfl, rfl⟩
def mY_Z_cost : jm_Y := (⟨"LyingBeaconsModel", "cost", "(II)I"⟩, prog_11_method_63_code, 4, some .int, { frames := 1, cells := 0, slots := 0, locals := 25 }, none)
theorem cw_Z_cost : Cond.code (jm_nm mY_Z_cost) (jm_cd mY_Z_cost) (jm_ml mY_Z_cost) (jm_rt mY_Z_cost) ∈ jm_tbl := jm_in (List.mem_of_getElem? (i := 1110) (by decide +kernel)) rfl
theorem ok_Z_cost : jm_ok mY_Z_cost 2 := ⟨by decide, rfl, cw_Z_cost, ini_Z, by decide +kernel⟩
theorem l0_Z_cost__Z_in : jm_l0 mY_Z_cost mY_Z_in := ⟨⟨Nat.le_of_ble_eq_true rfl, Nat.le_of_ble_eq_true rfl⟩, rfl, rfl⟩
theorem kl_Z_255 : Cond.constantLong "LyingBeaconsModel" 255 (1000 : Int64) ∈ jm_tbl := jm_in (List.mem_of_getElem? (i := 1111) (by decide +kernel)) rfl
theorem mr_154_59_14 : mr_154 59 14 = some 72 := by decide
theorem le_72_78 : 72 ≤ 78 := by decide
theorem l0_Law__Z_cost (L : Nat) (xs : Nat → Int32) : jm_l0 (mY_Law L xs) mY_Z_cost := ⟨⟨Nat.le_of_ble_eq_true rfl, Nat.le_of_ble_eq_true rfl⟩, rfl, rfl⟩
theorem ml_Law_112 : Cond.methodLink "LyingBeaconsLaw" 112 ⟨"LyingBeaconsModel", "cost", "(II)I"⟩ ∈ jm_tbl := jm_in (List.mem_of_getElem? (i := 1107) (by decide +kernel)) rfl
theorem im_Z_cost : Cond.instanceMethod ⟨"LyingBeaconsModel", "cost", "(II)I"⟩ ∈ jm_tbl := jm_in (List.mem_of_getElem? (i := 1108) (by decide +kernel)) rfl
theorem se_Z_cost : Cond.selects "LyingBeaconsModel" ⟨"LyingBeaconsModel", "cost", "(II)I"⟩ ⟨"LyingBeaconsModel", "cost", "(II)I"⟩ ∈ jm_tbl := jm_in (List.mem_of_getElem? (i := 1109) (by decide +kernel)) rfl
theorem ml_Law_109 : Cond.methodLink "LyingBeaconsLaw" 109 ⟨"LyingBeacons", "cost", "(II)I"⟩ ∈ jm_tbl := jm_in (List.mem_of_getElem? (i := 704) (by decide +kernel)) rfl
theorem im_X_cost : Cond.instanceMethod ⟨"LyingBeacons", "cost", "(II)I"⟩ ∈ jm_tbl := jm_in (List.mem_of_getElem? (i := 705) (by decide +kernel)) rfl
theorem se_X_cost : Cond.selects "LyingBeacons" ⟨"LyingBeacons", "cost", "(II)I"⟩ ⟨"LyingBeacons", "cost", "(II)I"⟩ ∈ jm_tbl := jm_in (List.mem_of_getElem? (i := 706) (by decide +kernel)) rfl
def mY_X_sends : jm_Y := (⟨"LyingBeacons", "sends", "(II)I"⟩, prog_1_method_25_code, 3, some .int, { frames := 1, cells := 0, slots := 0, locals := 23 }, none)
theorem cw_X_sends : Cond.code (jm_nm mY_X_sends) (jm_cd mY_X_sends) (jm_ml mY_X_sends) (jm_rt mY_X_sends) ∈ jm_tbl := jm_in (List.mem_of_getElem? (i := 711) (by decide +kernel)) rfl
theorem ok_X_sends : jm_ok mY_X_sends 2 := ⟨by decide, rfl, cw_X_sends, ini_X, by decide +kernel⟩
def mY_X_isNumberOfNights : jm_Y := (⟨"LyingBeacons", "isNumberOfNights", "(I)Z"⟩, prog_1_method_35_code, 1, some .boolean, { frames := 0, cells := 0, slots := 0, locals := 0 }, none)
theorem cw_X_isNumberOfNights : Cond.code (jm_nm mY_X_isNumberOfNights) (jm_cd mY_X_isNumberOfNights) (jm_ml mY_X_isNumberOfNights) (jm_rt mY_X_isNumberOfNights) ∈ jm_tbl := jm_in (List.mem_of_getElem? (i := 714) (by decide +kernel)) rfl
theorem ok_X_isNumberOfNights : jm_ok mY_X_isNumberOfNights 1 := ⟨by decide, rfl, cw_X_isNumberOfNights, ini_X, by decide +kernel⟩
theorem l0_X_sends__X_isNumberOfNights : jm_l0 mY_X_sends mY_X_isNumberOfNights := ⟨⟨Nat.le_of_ble_eq_true rfl, Nat.le_of_ble_eq_true rfl⟩, rfl, rfl⟩
def mY_Ki_wouldSend : jm_Y := (⟨"LyingBeacons$King", "wouldSend", "(II)Z"⟩, prog_3_method_2_code, 4, some .boolean, { frames := 0, cells := 0, slots := 0, locals := 0 }, none)
theorem cw_Ki_wouldSend : Cond.code (jm_nm mY_Ki_wouldSend) (jm_cd mY_Ki_wouldSend) (jm_ml mY_Ki_wouldSend) (jm_rt mY_Ki_wouldSend) ∈ jm_tbl := jm_in (List.mem_of_getElem? (i := 718) (by decide +kernel)) rfl
theorem ok_Ki_wouldSend : jm_ok mY_Ki_wouldSend 2 := ⟨by decide, rfl, cw_Ki_wouldSend, ini_Ki, by decide +kernel⟩
theorem l0_X_sends__Ki_wouldSend : jm_l0 mY_X_sends mY_Ki_wouldSend := ⟨⟨Nat.le_of_ble_eq_true rfl, Nat.le_of_ble_eq_true rfl⟩, rfl, rfl⟩
theorem ml_X_244 : Cond.methodLink "LyingBeacons" 244 ⟨"LyingBeacons$King", "wouldSend", "(II)Z"⟩ ∈ jm_tbl := jm_in (List.mem_of_getElem? (i := 715) (by decide +kernel)) rfl
theorem im_Ki_wouldSend : Cond.instanceMethod ⟨"LyingBeacons$King", "wouldSend", "(II)Z"⟩ ∈ jm_tbl := jm_in (List.mem_of_getElem? (i := 716) (by decide +kernel)) rfl
theorem se_Ki_wouldSend : Cond.selects "LyingBeacons$King" ⟨"LyingBeacons$King", "wouldSend", "(II)Z"⟩ ⟨"LyingBeacons$King", "wouldSend", "(II)Z"⟩ ∈ jm_tbl := jm_in (List.mem_of_getElem? (i := 717) (by decide +kernel)) rfl
theorem ml_X_241 : Cond.methodLink "LyingBeacons" 241 ⟨"LyingBeacons", "isNumberOfNights", "(I)Z"⟩ ∈ jm_tbl := jm_in (List.mem_of_getElem? (i := 712) (by decide +kernel)) rfl
theorem sm_X_isNumberOfNights : Cond.static ⟨"LyingBeacons", "isNumberOfNights", "(I)Z"⟩ ∈ jm_tbl := jm_in (List.mem_of_getElem? (i := 713) (by decide +kernel)) rfl
theorem l0_Law__X_sends (L : Nat) (xs : Nat → Int32) : jm_l0 (mY_Law L xs) mY_X_sends := ⟨⟨Nat.le_of_ble_eq_true rfl, Nat.le_of_ble_eq_true rfl⟩, rfl, rfl⟩
def mY_Z_sends : jm_Y := (⟨"LyingBeaconsModel", "sends", "(II)I"⟩, prog_11_method_66_code, 3, some .int, { frames := 2, cells := 0, slots := 0, locals := 46 }, none)
theorem cw_Z_sends : Cond.code (jm_nm mY_Z_sends) (jm_cd mY_Z_sends) (jm_ml mY_Z_sends) (jm_rt mY_Z_sends) ∈ jm_tbl := jm_in (List.mem_of_getElem? (i := 1115) (by decide +kernel)) rfl
theorem ok_Z_sends : jm_ok mY_Z_sends 2 := ⟨by decide, rfl, cw_Z_sends, ini_Z, by decide +kernel⟩
def mY_Z_areNights : jm_Y := (⟨"LyingBeaconsModel", "areNights", "(II)Z"⟩, prog_11_method_65_code, 2, some .boolean, { frames := 1, cells := 0, slots := 0, locals := 25 }, none)
theorem cw_Z_areNights : Cond.code (jm_nm mY_Z_areNights) (jm_cd mY_Z_areNights) (jm_ml mY_Z_areNights) (jm_rt mY_Z_areNights) ∈ jm_tbl := jm_in (List.mem_of_getElem? (i := 1118) (by decide +kernel)) rfl
theorem ok_Z_areNights : jm_ok mY_Z_areNights 2 := ⟨by decide, rfl, cw_Z_areNights, ini_Z, by decide +kernel⟩
theorem kl_Z_257 : Cond.constantLong "LyingBeaconsModel" 257 (100 : Int64) ∈ jm_tbl := jm_in (List.mem_of_getElem? (i := 1119) (by decide +kernel)) rfl
theorem l0_Z_areNights__Z_in : jm_l0 mY_Z_areNights mY_Z_in := ⟨⟨Nat.le_of_ble_eq_true rfl, Nat.le_of_ble_eq_true rfl⟩, rfl, rfl⟩
theorem l0_Z_sends__Z_areNights : jm_l0 mY_Z_sends mY_Z_areNights := ⟨⟨Nat.le_of_ble_eq_true rfl, Nat.le_of_ble_eq_true rfl⟩, rfl, rfl⟩
def mY_Z_doesSend : jm_Y := (⟨"LyingBeaconsModel", "doesSend", "(II)Z"⟩, prog_11_method_64_code, 3, some .boolean, { frames := 0, cells := 0, slots := 0, locals := 0 }, none)
theorem cw_Z_doesSend : Cond.code (jm_nm mY_Z_doesSend) (jm_cd mY_Z_doesSend) (jm_ml mY_Z_doesSend) (jm_rt mY_Z_doesSend) ∈ jm_tbl := jm_in (List.mem_of_getElem? (i := 1123) (by decide +kernel)) rfl
theorem ok_Z_doesSend : jm_ok mY_Z_doesSend 2 := ⟨by decide, rfl, cw_Z_doesSend, ini_Z, by decide +kernel⟩
theorem l0_Z_sends__Z_doesSend : jm_l0 mY_Z_sends mY_Z_doesSend := ⟨⟨Nat.le_of_ble_eq_true rfl, Nat.le_of_ble_eq_true rfl⟩, rfl, rfl⟩
theorem ml_Z_262 : Cond.methodLink "LyingBeaconsModel" 262 ⟨"LyingBeaconsModel", "doesSend", "(II)Z"⟩ ∈ jm_tbl := jm_in (List.mem_of_getElem? (i := 1120) (by decide +kernel)) rfl
theorem im_Z_doesSend : Cond.instanceMethod ⟨"LyingBeaconsModel", "doesSend", "(II)Z"⟩ ∈ jm_tbl := jm_in (List.mem_of_getElem? (i := 1122) (by decide +kernel)) rfl
theorem se_Z_doesSend : Cond.selects "LyingBeaconsModel" ⟨"LyingBeaconsModel", "doesSend", "(II)Z"⟩ ⟨"LyingBeaconsModel", "doesSend", "(II)Z"⟩ ∈ jm_tbl := jm_in (List.mem_of_getElem? (i := 60) (by decide +kernel)) rfl
theorem ml_Z_259 : Cond.methodLink "LyingBeaconsModel" 259 ⟨"LyingBeaconsModel", "areNights", "(II)Z"⟩ ∈ jm_tbl := jm_in (List.mem_of_getElem? (i := 1116) (by decide +kernel)) rfl
theorem sm_Z_areNights : Cond.static ⟨"LyingBeaconsModel", "areNights", "(II)Z"⟩ ∈ jm_tbl := jm_in (List.mem_of_getElem? (i := 1117) (by decide +kernel)) rfl
theorem l0_Law__Z_sends (L : Nat) (xs : Nat → Int32) : jm_l0 (mY_Law L xs) mY_Z_sends := ⟨⟨Nat.le_of_ble_eq_true rfl, Nat.le_of_ble_eq_true rfl⟩, rfl, rfl⟩
theorem ml_Law_116 : Cond.methodLink "LyingBeaconsLaw" 116 ⟨"LyingBeaconsModel", "sends", "(II)I"⟩ ∈ jm_tbl := jm_in (List.mem_of_getElem? (i := 1112) (by decide +kernel)) rfl
theorem im_Z_sends : Cond.instanceMethod ⟨"LyingBeaconsModel", "sends", "(II)I"⟩ ∈ jm_tbl := jm_in (List.mem_of_getElem? (i := 1113) (by decide +kernel)) rfl
theorem se_Z_sends : Cond.selects "LyingBeaconsModel" ⟨"LyingBeaconsModel", "sends", "(II)I"⟩ ⟨"LyingBeaconsModel", "sends", "(II)I"⟩ ∈ jm_tbl := jm_in (List.mem_of_getElem? (i := 1114) (by decide +kernel)) rfl
theorem ml_Law_113 : Cond.methodLink "LyingBeaconsLaw" 113 ⟨"LyingBeacons", "sends", "(II)I"⟩ ∈ jm_tbl := jm_in (List.mem_of_getElem? (i := 708) (by decide +kernel)) rfl
theorem im_X_sends : Cond.instanceMethod ⟨"LyingBeacons", "sends", "(II)I"⟩ ∈ jm_tbl := jm_in (List.mem_of_getElem? (i := 709) (by decide +kernel)) rfl
theorem se_X_sends : Cond.selects "LyingBeacons" ⟨"LyingBeacons", "sends", "(II)I"⟩ ⟨"LyingBeacons", "sends", "(II)I"⟩ ∈ jm_tbl := jm_in (List.mem_of_getElem? (i := 710) (by decide +kernel)) rfl
def mY_X_unbelieved : jm_Y := (⟨"LyingBeacons", "unbelieved", "(II)I"⟩, prog_1_method_26_code, 3, some .int, { frames := 2, cells := 0, slots := 0, locals := 46 }, none)
theorem cw_X_unbelieved : Cond.code (jm_nm mY_X_unbelieved) (jm_cd mY_X_unbelieved) (jm_ml mY_X_unbelieved) (jm_rt mY_X_unbelieved) ∈ jm_tbl := jm_in (List.mem_of_getElem? (i := 722) (by decide +kernel)) rfl
theorem ok_X_unbelieved : jm_ok mY_X_unbelieved 2 := ⟨by decide, rfl, cw_X_unbelieved, ini_X, by decide +kernel⟩
theorem l0_X_unbelieved__X_isNumberOfNights : jm_l0 mY_X_unbelieved mY_X_isNumberOfNights := ⟨⟨Nat.le_of_ble_eq_true rfl, Nat.le_of_ble_eq_true rfl⟩, rfl, rfl⟩
def mY_Ki_moreFalseNights : jm_Y := (⟨"LyingBeacons$King", "moreFalseNights", "(II)I"⟩, prog_3_method_3_code, 4, some .int, { frames := 1, cells := 0, slots := 0, locals := 23 }, none)
theorem cw_Ki_moreFalseNights : Cond.code (jm_nm mY_Ki_moreFalseNights) (jm_cd mY_Ki_moreFalseNights) (jm_ml mY_Ki_moreFalseNights) (jm_rt mY_Ki_moreFalseNights) ∈ jm_tbl := jm_in (List.mem_of_getElem? (i := 726) (by decide +kernel)) rfl
theorem ok_Ki_moreFalseNights : jm_ok mY_Ki_moreFalseNights 2 := ⟨by decide, rfl, cw_Ki_moreFalseNights, ini_Ki, by decide +kernel⟩
theorem l0_Ki_moreFalseNights__Ki_wouldSend : jm_l0 mY_Ki_moreFalseNights mY_Ki_wouldSend := ⟨⟨Nat.le_of_ble_eq_true rfl, Nat.le_of_ble_eq_true rfl⟩, rfl, rfl⟩
theorem ml_Ki_15 : Cond.methodLink "LyingBeacons$King" 15 ⟨"LyingBeacons$King", "wouldSend", "(II)Z"⟩ ∈ jm_tbl := jm_in (List.mem_of_getElem? (i := 727) (by decide +kernel)) rfl
theorem l0_X_unbelieved__Ki_moreFalseNights : jm_l0 mY_X_unbelieved mY_Ki_moreFalseNights := ⟨⟨Nat.le_of_ble_eq_true rfl, Nat.le_of_ble_eq_true rfl⟩, rfl, rfl⟩
theorem ml_X_247 : Cond.methodLink "LyingBeacons" 247 ⟨"LyingBeacons$King", "moreFalseNights", "(II)I"⟩ ∈ jm_tbl := jm_in (List.mem_of_getElem? (i := 723) (by decide +kernel)) rfl
theorem im_Ki_moreFalseNights : Cond.instanceMethod ⟨"LyingBeacons$King", "moreFalseNights", "(II)I"⟩ ∈ jm_tbl := jm_in (List.mem_of_getElem? (i := 724) (by decide +kernel)) rfl
theorem se_Ki_moreFalseNights : Cond.selects "LyingBeacons$King" ⟨"LyingBeacons$King", "moreFalseNights", "(II)I"⟩ ⟨"LyingBeacons$King", "moreFalseNights", "(II)I"⟩ ∈ jm_tbl := jm_in (List.mem_of_getElem? (i := 725) (by decide +kernel)) rfl
theorem l0_Law__X_unbelieved (L : Nat) (xs : Nat → Int32) : jm_l0 (mY_Law L xs) mY_X_unbelieved := ⟨⟨Nat.le_of_ble_eq_true rfl, Nat.le_of_ble_eq_true rfl⟩, rfl, rfl⟩
def mY_Z_unbelieved : jm_Y := (⟨"LyingBeaconsModel", "unbelieved", "(II)I"⟩, prog_11_method_67_code, 4, some .int, { frames := 2, cells := 0, slots := 0, locals := 46 }, none)
theorem cw_Z_unbelieved : Cond.code (jm_nm mY_Z_unbelieved) (jm_cd mY_Z_unbelieved) (jm_ml mY_Z_unbelieved) (jm_rt mY_Z_unbelieved) ∈ jm_tbl := jm_in (List.mem_of_getElem? (i := 1127) (by decide +kernel)) rfl
theorem ok_Z_unbelieved : jm_ok mY_Z_unbelieved 2 := ⟨by decide, rfl, cw_Z_unbelieved, ini_Z, by decide +kernel⟩
theorem l0_Z_unbelieved__Z_areNights : jm_l0 mY_Z_unbelieved mY_Z_areNights := ⟨⟨Nat.le_of_ble_eq_true rfl, Nat.le_of_ble_eq_true rfl⟩, rfl, rfl⟩
theorem l0_Z_unbelieved__Z_doesSend : jm_l0 mY_Z_unbelieved mY_Z_doesSend := ⟨⟨Nat.le_of_ble_eq_true rfl, Nat.le_of_ble_eq_true rfl⟩, rfl, rfl⟩
theorem l0_Law__Z_unbelieved (L : Nat) (xs : Nat → Int32) : jm_l0 (mY_Law L xs) mY_Z_unbelieved := ⟨⟨Nat.le_of_ble_eq_true rfl, Nat.le_of_ble_eq_true rfl⟩, rfl, rfl⟩
theorem ml_Law_120 : Cond.methodLink "LyingBeaconsLaw" 120 ⟨"LyingBeaconsModel", "unbelieved", "(II)I"⟩ ∈ jm_tbl := jm_in (List.mem_of_getElem? (i := 1124) (by decide +kernel)) rfl
theorem im_Z_unbelieved : Cond.instanceMethod ⟨"LyingBeaconsModel", "unbelieved", "(II)I"⟩ ∈ jm_tbl := jm_in (List.mem_of_getElem? (i := 1125) (by decide +kernel)) rfl
theorem se_Z_unbelieved : Cond.selects "LyingBeaconsModel" ⟨"LyingBeaconsModel", "unbelieved", "(II)I"⟩ ⟨"LyingBeaconsModel", "unbelieved", "(II)I"⟩ ∈ jm_tbl := jm_in (List.mem_of_getElem? (i := 1126) (by decide +kernel)) rfl
theorem ml_Law_117 : Cond.methodLink "LyingBeaconsLaw" 117 ⟨"LyingBeacons", "unbelieved", "(II)I"⟩ ∈ jm_tbl := jm_in (List.mem_of_getElem? (i := 719) (by decide +kernel)) rfl
theorem im_X_unbelieved : Cond.instanceMethod ⟨"LyingBeacons", "unbelieved", "(II)I"⟩ ∈ jm_tbl := jm_in (List.mem_of_getElem? (i := 720) (by decide +kernel)) rfl
theorem se_X_unbelieved : Cond.selects "LyingBeacons" ⟨"LyingBeacons", "unbelieved", "(II)I"⟩ ⟨"LyingBeacons", "unbelieved", "(II)I"⟩ ∈ jm_tbl := jm_in (List.mem_of_getElem? (i := 721) (by decide +kernel)) rfl
def mY_X_keep : jm_Y := (⟨"LyingBeacons", "keep", "()I"⟩, prog_1_method_27_code, 2, some .int, { frames := 1, cells := 0, slots := 0, locals := 22 }, none)
theorem cw_X_keep : Cond.code (jm_nm mY_X_keep) (jm_cd mY_X_keep) (jm_ml mY_X_keep) (jm_rt mY_X_keep) ∈ jm_tbl := jm_in (List.mem_of_getElem? (i := 731) (by decide +kernel)) rfl
theorem ok_X_keep : jm_ok mY_X_keep 0 := ⟨by decide, rfl, cw_X_keep, ini_X, by decide +kernel⟩
theorem mr_154_1_6 : mr_154 1 6 = some 35 := by decide
theorem le_35_78 : 35 ≤ 78 := by decide
theorem mr_154_35_9 : mr_154 35 9 = some 44 := by decide
theorem le_44_78 : 44 ≤ 78 := by decide
theorem mr_154_35_1 : mr_154 35 1 = some 36 := by decide
theorem mr_154_35_2 : mr_154 35 2 = some 37 := by decide
theorem mr_154_35_3 : mr_154 35 3 = some 38 := by decide
theorem mr_154_35_4 : mr_154 35 4 = some 39 := by decide
theorem mr_154_35_5 : mr_154 35 5 = some 40 := by decide
theorem mr_154_35_6 : mr_154 35 6 = some 41 := by decide
theorem mr_154_35_7 : mr_154 35 7 = some 42 := by decide
theorem mr_154_35_8 : mr_154 35 8 = some 43 := by decide
theorem le_43_78 : 43 ≤ 78 := by decide
theorem le_42_78 : 42 ≤ 78 := by decide
theorem le_41_78 : 41 ≤ 78 := by decide
theorem le_40_78 : 40 ≤ 78 := by decide
theorem le_39_78 : 39 ≤ 78 := by decide
theorem le_38_78 : 38 ≤ 78 := by decide
theorem le_37_78 : 37 ≤ 78 := by decide
theorem le_36_78 : 36 ≤ 78 := by decide
theorem l0_X_keep__Ne_become : jm_l0 mY_X_keep mY_Ne_become := ⟨⟨Nat.le_of_ble_eq_true rfl, Nat.le_of_ble_eq_true rfl⟩, rfl, rfl⟩
theorem mr_154_1_5 : mr_154 1 5 = some 25 := by decide
theorem le_25_78 : 25 ≤ 78 := by decide
theorem mr_154_25_9 : mr_154 25 9 = some 34 := by decide
theorem le_34_78 : 34 ≤ 78 := by decide
theorem mr_154_25_1 : mr_154 25 1 = some 26 := by decide
theorem mr_154_25_2 : mr_154 25 2 = some 27 := by decide
theorem mr_154_25_3 : mr_154 25 3 = some 28 := by decide
theorem mr_154_25_4 : mr_154 25 4 = some 29 := by decide
theorem mr_154_25_5 : mr_154 25 5 = some 30 := by decide
theorem mr_154_25_6 : mr_154 25 6 = some 31 := by decide
theorem mr_154_25_7 : mr_154 25 7 = some 32 := by decide
theorem mr_154_25_8 : mr_154 25 8 = some 33 := by decide
theorem le_33_78 : 33 ≤ 78 := by decide
theorem le_32_78 : 32 ≤ 78 := by decide
theorem le_31_78 : 31 ≤ 78 := by decide
theorem le_30_78 : 30 ≤ 78 := by decide
theorem le_29_78 : 29 ≤ 78 := by decide
theorem le_28_78 : 28 ≤ 78 := by decide
theorem le_27_78 : 27 ≤ 78 := by decide
theorem le_26_78 : 26 ≤ 78 := by decide
theorem l0_Law__X_keep (L : Nat) (xs : Nat → Int32) : jm_l0 (mY_Law L xs) mY_X_keep := ⟨⟨Nat.le_of_ble_eq_true rfl, Nat.le_of_ble_eq_true rfl⟩, rfl, rfl⟩
def mY_Z_keep : jm_Y := (⟨"LyingBeaconsModel", "keep", "()I"⟩, prog_11_method_69_code, 1, some .int, { frames := 2, cells := 0, slots := 0, locals := 46 }, none)
theorem cw_Z_keep : Cond.code (jm_nm mY_Z_keep) (jm_cd mY_Z_keep) (jm_ml mY_Z_keep) (jm_rt mY_Z_keep) ∈ jm_tbl := jm_in (List.mem_of_getElem? (i := 1131) (by decide +kernel)) rfl
theorem ok_Z_keep : jm_ok mY_Z_keep 0 := ⟨by decide, rfl, cw_Z_keep, ini_Z, by decide +kernel⟩
theorem fo_Z_265 : jm_fo "LyingBeaconsModel" 265 8 12 RX9 TX9 30 := ⟨inY9, rfl, by decide, jm_in (List.mem_of_getElem? (i := 772) (by decide +kernel)) rfl⟩
def mY_Z_copyAll : jm_Y := (⟨"LyingBeaconsModel", "copyAll", "(II)V"⟩, prog_11_method_68_code, 4, none, { frames := 1, cells := 0, slots := 0, locals := 23 }, none)
theorem cw_Z_copyAll : Cond.code (jm_nm mY_Z_copyAll) (jm_cd mY_Z_copyAll) (jm_ml mY_Z_copyAll) (jm_rt mY_Z_copyAll) ∈ jm_tbl := jm_in (List.mem_of_getElem? (i := 1135) (by decide +kernel)) rfl
theorem ok_Z_copyAll : jm_ok mY_Z_copyAll 2 := ⟨by decide, rfl, cw_Z_copyAll, ini_Z, by decide +kernel⟩
theorem l0_Z_copyAll__Z_copy : jm_l0 mY_Z_copyAll mY_Z_copy := ⟨⟨Nat.le_of_ble_eq_true rfl, Nat.le_of_ble_eq_true rfl⟩, rfl, rfl⟩
theorem l0_Z_keep__Z_copyAll : jm_l0 mY_Z_keep mY_Z_copyAll := ⟨⟨Nat.le_of_ble_eq_true rfl, Nat.le_of_ble_eq_true rfl⟩, rfl, rfl⟩
theorem fp_Z_265 : jm_fp "LyingBeaconsModel" 265 8 12 RX9 TX9 30 false .int := ⟨fo_Z_265, ⟨tyX9, tyX9_ok⟩, nmX9, rfl, by decide +kernel, fun h => by first | rfl | cases h⟩
theorem ml_Z_268 : Cond.methodLink "LyingBeaconsModel" 268 ⟨"LyingBeaconsModel", "copyAll", "(II)V"⟩ ∈ jm_tbl := jm_in (List.mem_of_getElem? (i := 1132) (by decide +kernel)) rfl
theorem im_Z_copyAll : Cond.instanceMethod ⟨"LyingBeaconsModel", "copyAll", "(II)V"⟩ ∈ jm_tbl := jm_in (List.mem_of_getElem? (i := 1134) (by decide +kernel)) rfl
theorem se_Z_copyAll : Cond.selects "LyingBeaconsModel" ⟨"LyingBeaconsModel", "copyAll", "(II)V"⟩ ⟨"LyingBeaconsModel", "copyAll", "(II)V"⟩ ∈ jm_tbl := jm_in (List.mem_of_getElem? (i := 61) (by decide +kernel)) rfl
theorem l0_Law__Z_keep (L : Nat) (xs : Nat → Int32) : jm_l0 (mY_Law L xs) mY_Z_keep := ⟨⟨Nat.le_of_ble_eq_true rfl, Nat.le_of_ble_eq_true rfl⟩, rfl, rfl⟩
theorem ml_Law_124 : Cond.methodLink "LyingBeaconsLaw" 124 ⟨"LyingBeaconsModel", "keep", "()I"⟩ ∈ jm_tbl := jm_in (List.mem_of_getElem? (i := 1128) (by decide +kernel)) rfl
theorem im_Z_keep : Cond.instanceMethod ⟨"LyingBeaconsModel", "keep", "()I"⟩ ∈ jm_tbl := jm_in (List.mem_of_getElem? (i := 1129) (by decide +kernel)) rfl
theorem se_Z_keep : Cond.selects "LyingBeaconsModel" ⟨"LyingBeaconsModel", "keep", "()I"⟩ ⟨"LyingBeaconsModel", "keep", "()I"⟩ ∈ jm_tbl := jm_in (List.mem_of_getElem? (i := 1130) (by decide +kernel)) rfl
theorem ml_Law_121 : Cond.methodLink "LyingBeaconsLaw" 121 ⟨"LyingBeacons", "keep", "()I"⟩ ∈ jm_tbl := jm_in (List.mem_of_getElem? (i := 728) (by decide +kernel)) rfl
theorem im_X_keep : Cond.instanceMethod ⟨"LyingBeacons", "keep", "()I"⟩ ∈ jm_tbl := jm_in (List.mem_of_getElem? (i := 729) (by decide +kernel)) rfl
theorem se_X_keep : Cond.selects "LyingBeacons" ⟨"LyingBeacons", "keep", "()I"⟩ ⟨"LyingBeacons", "keep", "()I"⟩ ∈ jm_tbl := jm_in (List.mem_of_getElem? (i := 730) (by decide +kernel)) rfl
def mY_X_back : jm_Y := (⟨"LyingBeacons", "back", "()I"⟩, prog_1_method_28_code, 1, some .int, { frames := 1, cells := 0, slots := 0, locals := 22 }, none)
theorem cw_X_back : Cond.code (jm_nm mY_X_back) (jm_cd mY_X_back) (jm_ml mY_X_back) (jm_rt mY_X_back) ∈ jm_tbl := jm_in (List.mem_of_getElem? (i := 735) (by decide +kernel)) rfl
theorem ok_X_back : jm_ok mY_X_back 0 := ⟨by decide, rfl, cw_X_back, ini_X, by decide +kernel⟩
theorem l0_X_back__Ne_become : jm_l0 mY_X_back mY_Ne_become := ⟨⟨Nat.le_of_ble_eq_true rfl, Nat.le_of_ble_eq_true rfl⟩, rfl, rfl⟩
theorem l0_Law__X_back (L : Nat) (xs : Nat → Int32) : jm_l0 (mY_Law L xs) mY_X_back := ⟨⟨Nat.le_of_ble_eq_true rfl, Nat.le_of_ble_eq_true rfl⟩, rfl, rfl⟩
def mY_Z_back : jm_Y := (⟨"LyingBeaconsModel", "back", "()I"⟩, prog_11_method_70_code, 1, some .int, { frames := 2, cells := 0, slots := 0, locals := 46 }, none)
theorem cw_Z_back : Cond.code (jm_nm mY_Z_back) (jm_cd mY_Z_back) (jm_ml mY_Z_back) (jm_rt mY_Z_back) ∈ jm_tbl := jm_in (List.mem_of_getElem? (i := 1139) (by decide +kernel)) rfl
theorem ok_Z_back : jm_ok mY_Z_back 0 := ⟨by decide, rfl, cw_Z_back, ini_Z, by decide +kernel⟩
theorem l0_Z_back__Z_copyAll : jm_l0 mY_Z_back mY_Z_copyAll := ⟨⟨Nat.le_of_ble_eq_true rfl, Nat.le_of_ble_eq_true rfl⟩, rfl, rfl⟩
theorem l0_Law__Z_back (L : Nat) (xs : Nat → Int32) : jm_l0 (mY_Law L xs) mY_Z_back := ⟨⟨Nat.le_of_ble_eq_true rfl, Nat.le_of_ble_eq_true rfl⟩, rfl, rfl⟩
theorem ml_Law_128 : Cond.methodLink "LyingBeaconsLaw" 128 ⟨"LyingBeaconsModel", "back", "()I"⟩ ∈ jm_tbl := jm_in (List.mem_of_getElem? (i := 1136) (by decide +kernel)) rfl
theorem im_Z_back : Cond.instanceMethod ⟨"LyingBeaconsModel", "back", "()I"⟩ ∈ jm_tbl := jm_in (List.mem_of_getElem? (i := 1137) (by decide +kernel)) rfl
theorem se_Z_back : Cond.selects "LyingBeaconsModel" ⟨"LyingBeaconsModel", "back", "()I"⟩ ⟨"LyingBeaconsModel", "back", "()I"⟩ ∈ jm_tbl := jm_in (List.mem_of_getElem? (i := 1138) (by decide +kernel)) rfl
theorem ml_Law_125 : Cond.methodLink "LyingBeaconsLaw" 125 ⟨"LyingBeacons", "back", "()I"⟩ ∈ jm_tbl := jm_in (List.mem_of_getElem? (i := 732) (by decide +kernel)) rfl
theorem im_X_back : Cond.instanceMethod ⟨"LyingBeacons", "back", "()I"⟩ ∈ jm_tbl := jm_in (List.mem_of_getElem? (i := 733) (by decide +kernel)) rfl
theorem se_X_back : Cond.selects "LyingBeacons" ⟨"LyingBeacons", "back", "()I"⟩ ⟨"LyingBeacons", "back", "()I"⟩ ∈ jm_tbl := jm_in (List.mem_of_getElem? (i := 734) (by decide +kernel)) rfl
def mY_X_count : jm_Y := (⟨"LyingBeacons", "count", "(I)I"⟩, prog_1_method_29_code, 2, some .int, { frames := 2, cells := 0, slots := 0, locals := 42 }, none)
theorem cw_X_count : Cond.code (jm_nm mY_X_count) (jm_cd mY_X_count) (jm_ml mY_X_count) (jm_rt mY_X_count) ∈ jm_tbl := jm_in (List.mem_of_getElem? (i := 739) (by decide +kernel)) rfl
theorem ok_X_count : jm_ok mY_X_count 1 := ⟨by decide, rfl, cw_X_count, ini_X, by decide +kernel⟩
def mY_Ne_sights : jm_Y := (⟨"LyingBeacons$Net", "sights", "()I"⟩, prog_5_method_8_code, 3, some .int, { frames := 1, cells := 0, slots := 0, locals := 20 }, none)
theorem cw_Ne_sights : Cond.code (jm_nm mY_Ne_sights) (jm_cd mY_Ne_sights) (jm_ml mY_Ne_sights) (jm_rt mY_Ne_sights) ∈ jm_tbl := jm_in (List.mem_of_getElem? (i := 743) (by decide +kernel)) rfl
theorem ok_Ne_sights : jm_ok mY_Ne_sights 0 := ⟨by decide, rfl, cw_Ne_sights, ini_Ne, by decide +kernel⟩
theorem l0_Ne_sights__JI_bitCount : jm_l0 mY_Ne_sights mY_JI_bitCount := ⟨⟨Nat.le_of_ble_eq_true rfl, Nat.le_of_ble_eq_true rfl⟩, rfl, rfl⟩
theorem ml_Ne_58 : Cond.methodLink "LyingBeacons$Net" 58 ⟨"java/lang/Integer", "bitCount", "(I)I"⟩ ∈ jm_tbl := jm_in (List.mem_of_getElem? (i := 744) (by decide +kernel)) rfl
theorem l0_X_count__Ne_sights : jm_l0 mY_X_count mY_Ne_sights := ⟨⟨Nat.le_of_ble_eq_true rfl, Nat.le_of_ble_eq_true rfl⟩, rfl, rfl⟩
theorem ml_X_250 : Cond.methodLink "LyingBeacons" 250 ⟨"LyingBeacons$Net", "sights", "()I"⟩ ∈ jm_tbl := jm_in (List.mem_of_getElem? (i := 740) (by decide +kernel)) rfl
theorem im_Ne_sights : Cond.instanceMethod ⟨"LyingBeacons$Net", "sights", "()I"⟩ ∈ jm_tbl := jm_in (List.mem_of_getElem? (i := 741) (by decide +kernel)) rfl
theorem se_Ne_sights : Cond.selects "LyingBeacons$Net" ⟨"LyingBeacons$Net", "sights", "()I"⟩ ⟨"LyingBeacons$Net", "sights", "()I"⟩ ∈ jm_tbl := jm_in (List.mem_of_getElem? (i := 742) (by decide +kernel)) rfl
theorem l0_X_count__Ne_ofKind : jm_l0 mY_X_count mY_Ne_ofKind := ⟨⟨Nat.le_of_ble_eq_true rfl, Nat.le_of_ble_eq_true rfl⟩, rfl, rfl⟩
theorem l0_X_count__JI_bitCount : jm_l0 mY_X_count mY_JI_bitCount := ⟨⟨Nat.le_of_ble_eq_true rfl, Nat.le_of_ble_eq_true rfl⟩, rfl, rfl⟩
theorem ml_X_253 : Cond.methodLink "LyingBeacons" 253 ⟨"java/lang/Integer", "bitCount", "(I)I"⟩ ∈ jm_tbl := jm_in (List.mem_of_getElem? (i := 745) (by decide +kernel)) rfl
def mY_Ne_liars : jm_Y := (⟨"LyingBeacons$Net", "liars", "()I"⟩, prog_5_method_9_code, 3, some .int, { frames := 0, cells := 0, slots := 0, locals := 0 }, none)
theorem cw_Ne_liars : Cond.code (jm_nm mY_Ne_liars) (jm_cd mY_Ne_liars) (jm_ml mY_Ne_liars) (jm_rt mY_Ne_liars) ∈ jm_tbl := jm_in (List.mem_of_getElem? (i := 749) (by decide +kernel)) rfl
theorem ok_Ne_liars : jm_ok mY_Ne_liars 0 := ⟨by decide, rfl, cw_Ne_liars, ini_Ne, by decide +kernel⟩
theorem l0_X_count__Ne_liars : jm_l0 mY_X_count mY_Ne_liars := ⟨⟨Nat.le_of_ble_eq_true rfl, Nat.le_of_ble_eq_true rfl⟩, rfl, rfl⟩
theorem ml_X_258 : Cond.methodLink "LyingBeacons" 258 ⟨"LyingBeacons$Net", "liars", "()I"⟩ ∈ jm_tbl := jm_in (List.mem_of_getElem? (i := 746) (by decide +kernel)) rfl
theorem im_Ne_liars : Cond.instanceMethod ⟨"LyingBeacons$Net", "liars", "()I"⟩ ∈ jm_tbl := jm_in (List.mem_of_getElem? (i := 747) (by decide +kernel)) rfl
theorem se_Ne_liars : Cond.selects "LyingBeacons$Net" ⟨"LyingBeacons$Net", "liars", "()I"⟩ ⟨"LyingBeacons$Net", "liars", "()I"⟩ ∈ jm_tbl := jm_in (List.mem_of_getElem? (i := 748) (by decide +kernel)) rfl
def mY_Ne_logsWritten : jm_Y := (⟨"LyingBeacons$Net", "logsWritten", "()I"⟩, prog_5_method_10_code, 3, some .int, { frames := 0, cells := 0, slots := 0, locals := 0 }, none)
theorem cw_Ne_logsWritten : Cond.code (jm_nm mY_Ne_logsWritten) (jm_cd mY_Ne_logsWritten) (jm_ml mY_Ne_logsWritten) (jm_rt mY_Ne_logsWritten) ∈ jm_tbl := jm_in (List.mem_of_getElem? (i := 753) (by decide +kernel)) rfl
theorem ok_Ne_logsWritten : jm_ok mY_Ne_logsWritten 0 := ⟨by decide, rfl, cw_Ne_logsWritten, ini_Ne, by decide +kernel⟩
theorem l0_X_count__Ne_logsWritten : jm_l0 mY_X_count mY_Ne_logsWritten := ⟨⟨Nat.le_of_ble_eq_true rfl, Nat.le_of_ble_eq_true rfl⟩, rfl, rfl⟩
theorem ml_X_261 : Cond.methodLink "LyingBeacons" 261 ⟨"LyingBeacons$Net", "logsWritten", "()I"⟩ ∈ jm_tbl := jm_in (List.mem_of_getElem? (i := 750) (by decide +kernel)) rfl
theorem im_Ne_logsWritten : Cond.instanceMethod ⟨"LyingBeacons$Net", "logsWritten", "()I"⟩ ∈ jm_tbl := jm_in (List.mem_of_getElem? (i := 751) (by decide +kernel)) rfl
theorem se_Ne_logsWritten : Cond.selects "LyingBeacons$Net" ⟨"LyingBeacons$Net", "logsWritten", "()I"⟩ ⟨"LyingBeacons$Net", "logsWritten", "()I"⟩ ∈ jm_tbl := jm_in (List.mem_of_getElem? (i := 752) (by decide +kernel)) rfl
theorem l0_Law__X_count (L : Nat) (xs : Nat → Int32) : jm_l0 (mY_Law L xs) mY_X_count := ⟨⟨Nat.le_of_ble_eq_true rfl, Nat.le_of_ble_eq_true rfl⟩, rfl, rfl⟩
def mY_Z_count : jm_Y := (⟨"LyingBeaconsModel", "count", "(I)I"⟩, prog_11_method_71_code, 4, some .int, { frames := 1, cells := 0, slots := 0, locals := 23 }, none)
theorem cw_Z_count : Cond.code (jm_nm mY_Z_count) (jm_cd mY_Z_count) (jm_ml mY_Z_count) (jm_rt mY_Z_count) ∈ jm_tbl := jm_in (List.mem_of_getElem? (i := 1143) (by decide +kernel)) rfl
theorem ok_Z_count : jm_ok mY_Z_count 1 := ⟨by decide, rfl, cw_Z_count, ini_Z, by decide +kernel⟩
theorem l0_Z_count__Z_bits : jm_l0 mY_Z_count mY_Z_bits := ⟨⟨Nat.le_of_ble_eq_true rfl, Nat.le_of_ble_eq_true rfl⟩, rfl, rfl⟩
theorem l0_Z_count__Z_ofKind : jm_l0 mY_Z_count mY_Z_ofKind := ⟨⟨Nat.le_of_ble_eq_true rfl, Nat.le_of_ble_eq_true rfl⟩, rfl, rfl⟩
theorem l0_Z_count__Z_isLiar : jm_l0 mY_Z_count mY_Z_isLiar := ⟨⟨Nat.le_of_ble_eq_true rfl, Nat.le_of_ble_eq_true rfl⟩, rfl, rfl⟩
theorem l0_Law__Z_count (L : Nat) (xs : Nat → Int32) : jm_l0 (mY_Law L xs) mY_Z_count := ⟨⟨Nat.le_of_ble_eq_true rfl, Nat.le_of_ble_eq_true rfl⟩, rfl, rfl⟩
theorem ml_Law_132 : Cond.methodLink "LyingBeaconsLaw" 132 ⟨"LyingBeaconsModel", "count", "(I)I"⟩ ∈ jm_tbl := jm_in (List.mem_of_getElem? (i := 1140) (by decide +kernel)) rfl
theorem im_Z_count : Cond.instanceMethod ⟨"LyingBeaconsModel", "count", "(I)I"⟩ ∈ jm_tbl := jm_in (List.mem_of_getElem? (i := 1141) (by decide +kernel)) rfl
theorem se_Z_count : Cond.selects "LyingBeaconsModel" ⟨"LyingBeaconsModel", "count", "(I)I"⟩ ⟨"LyingBeaconsModel", "count", "(I)I"⟩ ∈ jm_tbl := jm_in (List.mem_of_getElem? (i := 1142) (by decide +kernel)) rfl
theorem ml_Law_129 : Cond.methodLink "LyingBeaconsLaw" 129 ⟨"LyingBeacons", "count", "(I)I"⟩ ∈ jm_tbl := jm_in (List.mem_of_getElem? (i := 736) (by decide +kernel)) rfl
theorem im_X_count : Cond.instanceMethod ⟨"LyingBeacons", "count", "(I)I"⟩ ∈ jm_tbl := jm_in (List.mem_of_getElem? (i := 737) (by decide +kernel)) rfl
theorem se_X_count : Cond.selects "LyingBeacons" ⟨"LyingBeacons", "count", "(I)I"⟩ ⟨"LyingBeacons", "count", "(I)I"⟩ ∈ jm_tbl := jm_in (List.mem_of_getElem? (i := 738) (by decide +kernel)) rfl
theorem ml_Law_12 : Cond.methodLink "LyingBeaconsLaw" 12 ⟨"LyingBeaconsModel", "<init>", "()V"⟩ ∈ jm_tbl := jm_in (List.mem_of_getElem? (i := 756) (by decide +kernel)) rfl
theorem im_Z_init : Cond.instanceMethod ⟨"LyingBeaconsModel", "<init>", "()V"⟩ ∈ jm_tbl := jm_in (List.mem_of_getElem? (i := 757) (by decide +kernel)) rfl
theorem cl_Law_10 : Cond.classLink "LyingBeaconsLaw" 10 "LyingBeaconsModel" ∈ jm_tbl := jm_in (List.mem_of_getElem? (i := 754) (by decide +kernel)) rfl
theorem it_Z : Cond.instantiable "LyingBeaconsModel" 30 ∈ jm_tbl := jm_in (List.mem_of_getElem? (i := 755) (by decide +kernel)) rfl
theorem ft_Z : ∀ k, k < 30 → (jm_fts 8)[k]? = some (tyX9 k) := by decide +kernel
theorem okt_Z : ∀ k, k < 30 → jm_okT (tyX9 k) = true := by decide +kernel
theorem ml_Law_9 : Cond.methodLink "LyingBeaconsLaw" 9 ⟨"LyingBeacons", "<init>", "()V"⟩ ∈ jm_tbl := jm_in (List.mem_of_getElem? (i := 77) (by decide +kernel)) rfl
theorem im_X_init : Cond.instanceMethod ⟨"LyingBeacons", "<init>", "()V"⟩ ∈ jm_tbl := jm_in (List.mem_of_getElem? (i := 78) (by decide +kernel)) rfl
theorem cl_Law_7 : Cond.classLink "LyingBeaconsLaw" 7 "LyingBeacons" ∈ jm_tbl := jm_in (List.mem_of_getElem? (i := 75) (by decide +kernel)) rfl
theorem it_X : Cond.instantiable "LyingBeacons" 14 ∈ jm_tbl := jm_in (List.mem_of_getElem? (i := 76) (by decide +kernel)) rfl
theorem ft_X : ∀ k, k < 14 → (jm_fts 7)[k]? = some (tyX8 k) := by decide +kernel
theorem okt_X : ∀ k, k < 14 → jm_okT (tyX8 k) = true := by decide +kernel
end
section
theorem d_Re_init_0 : decode (jm_cd mY_Re_init) 0 = .ok (.aload_n 0, 1) := by decide +kernel
theorem d_Re_init_1 : decode (jm_cd mY_Re_init) 1 = .ok (.invokespecial 3, 3) := by decide +kernel
theorem d_Re_init_4 : decode (jm_cd mY_Re_init) 4 = .ok (.aload_n 0, 1) := by decide +kernel
theorem d_Re_init_5 : decode (jm_cd mY_Re_init) 5 = .ok (.iconst 4, 1) := by decide +kernel
theorem d_Re_init_6 : decode (jm_cd mY_Re_init) 6 = .ok (.newarray .int, 2) := by decide +kernel
theorem d_Re_init_8 : decode (jm_cd mY_Re_init) 8 = .ok (.putfield 11, 3) := by decide +kernel
theorem d_Re_init_11 : decode (jm_cd mY_Re_init) 11 = .ok (.aload_n 0, 1) := by decide +kernel
theorem d_Re_init_12 : decode (jm_cd mY_Re_init) 12 = .ok (.iconst 0, 1) := by decide +kernel
theorem d_Re_init_13 : decode (jm_cd mY_Re_init) 13 = .ok (.putfield 15, 3) := by decide +kernel
theorem d_Re_init_16 : decode (jm_cd mY_Re_init) 16 = .ok (.aload_n 0, 1) := by decide +kernel
theorem d_Re_init_17 : decode (jm_cd mY_Re_init) 17 = .ok (.iconst 0, 1) := by decide +kernel
theorem d_Re_init_18 : decode (jm_cd mY_Re_init) 18 = .ok (.putfield 19, 3) := by decide +kernel
theorem d_Re_init_21 : decode (jm_cd mY_Re_init) 21 = .ok (.aload_n 0, 1) := by decide +kernel
theorem d_Re_init_22 : decode (jm_cd mY_Re_init) 22 = .ok (.iconst 0, 1) := by decide +kernel
theorem d_Re_init_23 : decode (jm_cd mY_Re_init) 23 = .ok (.putfield 22, 3) := by decide +kernel
theorem d_Re_init_26 : decode (jm_cd mY_Re_init) 26 = .ok (.aload_n 0, 1) := by decide +kernel
theorem d_Re_init_27 : decode (jm_cd mY_Re_init) 27 = .ok (.iconst 1, 1) := by decide +kernel
theorem d_Re_init_28 : decode (jm_cd mY_Re_init) 28 = .ok (.putfield 25, 3) := by decide +kernel
theorem d_Re_init_31 : decode (jm_cd mY_Re_init) 31 = .ok (.aload_n 0, 1) := by decide +kernel
theorem d_Re_init_32 : decode (jm_cd mY_Re_init) 32 = .ok (.iconst 0, 1) := by decide +kernel
theorem d_Re_init_33 : decode (jm_cd mY_Re_init) 33 = .ok (.putfield 29, 3) := by decide +kernel
theorem d_Re_init_36 : decode (jm_cd mY_Re_init) 36 = .ok (.aload_n 0, 1) := by decide +kernel
theorem d_Re_init_37 : decode (jm_cd mY_Re_init) 37 = .ok (.iconst 0, 1) := by decide +kernel
theorem d_Re_init_38 : decode (jm_cd mY_Re_init) 38 = .ok (.putfield 32, 3) := by decide +kernel
theorem d_Re_init_41 : decode (jm_cd mY_Re_init) 41 = .ok (.return_, 1) := by decide +kernel
def s_Re_init (s : jm_M) : Option jm_M := jm_ev (jm_z s 4) (fun s1 => jm_ev (jm_si s1 3 1 0) (fun s2 => jm_ev (jm_si s2 3 2 0) (fun s3 => jm_ev (jm_si s3 3 3 0) (fun s4 => jm_ev (jm_si s4 3 4 1) (fun s5 => jm_ev (jm_si s5 3 5 0) (fun s6 => jm_ev (jm_si s6 3 6 0) (fun s7 => (some s7))))))))
set_option maxRecDepth 100000 in
set_option maxHeartbeats 4000000 in
theorem s_Re_init_ok (s : jm_M) : jm_Sim mY_Re_init 0 0 0 [(0, .ref 3)] [] 3 mr_4 s (s_Re_init s) (jm_rV 4 mr_6) := by
  unfold s_Re_init
  refine jm_aload_n (pc := 0) (q := 0) (x := 3) d_Re_init_0 rfl ?_
  refine jm_oinit (pc := 1) d_Re_init_1 mlo_Re_3 oi_im oi_cd (Nat.le_of_ble_eq_true rfl) (Nat.le_of_ble_eq_true rfl) ?_
  refine jm_aload_n (pc := 4) (q := 0) (x := 3) d_Re_init_4 rfl ?_
  refine jm_iconst (pc := 5) (v := 4) d_Re_init_5 ci_4 ?_
  refine jm_nai (pc := 6) (N := 4) d_Re_init_6 ac_int (by decide) (by decide) (by decide) sh_4 (Nat.le_of_ble_eq_true rfl) (Nat.le_of_ble_eq_true rfl) (fun s1 => ?_)
  show jm_Sim _ 1 4 8 [(0, .ref 3)] [.ref 4, .ref 3] 4 mr_5 s1 _ _
  refine jm_pr (pc := 8) (i := 3) (q := 4) d_Re_init_8 fp_Re_11 (fun _ => rfl) sh_3 ge_3 le_3_4 ge_4 rfl (fun _ => rfl) (fun _ => rfl) (fun _ _ _ => rfl) ?_
  refine jm_aload_n (pc := 11) (q := 0) (x := 3) d_Re_init_11 rfl ?_
  refine jm_iconst (pc := 12) (v := 0) d_Re_init_12 ci_0 ?_
  refine jm_pi (pc := 13) (i := 3) d_Re_init_13 fp_Re_15 sh_3 ge_3 le_3_4 rfl rfl rfl (fun _ _ _ => rfl) (fun s2 => ?_)
  refine jm_aload_n (pc := 16) (q := 0) (x := 3) d_Re_init_16 rfl ?_
  refine jm_iconst (pc := 17) (v := 0) d_Re_init_17 ci_0 ?_
  refine jm_pi (pc := 18) (i := 3) d_Re_init_18 fp_Re_19 sh_3 ge_3 le_3_4 rfl rfl rfl (fun _ _ _ => rfl) (fun s3 => ?_)
  refine jm_aload_n (pc := 21) (q := 0) (x := 3) d_Re_init_21 rfl ?_
  refine jm_iconst (pc := 22) (v := 0) d_Re_init_22 ci_0 ?_
  refine jm_pi (pc := 23) (i := 3) d_Re_init_23 fp_Re_22 sh_3 ge_3 le_3_4 rfl rfl rfl (fun _ _ _ => rfl) (fun s4 => ?_)
  refine jm_aload_n (pc := 26) (q := 0) (x := 3) d_Re_init_26 rfl ?_
  refine jm_iconst (pc := 27) (v := 1) d_Re_init_27 ci_1 ?_
  refine jm_pi (pc := 28) (i := 3) d_Re_init_28 fp_Re_25 sh_3 ge_3 le_3_4 rfl (by decide) (by decide) (fun _ _ _ => rfl) (fun s5 => ?_)
  refine jm_aload_n (pc := 31) (q := 0) (x := 3) d_Re_init_31 rfl ?_
  refine jm_iconst (pc := 32) (v := 0) d_Re_init_32 ci_0 ?_
  refine jm_pi (pc := 33) (i := 3) d_Re_init_33 fp_Re_29 sh_3 ge_3 le_3_4 rfl rfl rfl (fun _ _ _ => rfl) (fun s6 => ?_)
  refine jm_aload_n (pc := 36) (q := 0) (x := 3) d_Re_init_36 rfl ?_
  refine jm_iconst (pc := 37) (v := 0) d_Re_init_37 ci_0 ?_
  refine jm_pi (pc := 38) (i := 3) d_Re_init_38 fp_Re_32 sh_3 ge_3 le_3_4 rfl rfl rfl (fun _ _ _ => rfl) (fun s7 => ?_)
  exact jm_vret (pc := 41) d_Re_init_41 rfl rfl rfl rfl
theorem d_Ne_clear_0 : decode (jm_cd mY_Ne_clear) 0 = .ok (.aload_n 0, 1) := by decide +kernel
theorem d_Ne_clear_1 : decode (jm_cd mY_Ne_clear) 1 = .ok (.iconst 0, 1) := by decide +kernel
theorem d_Ne_clear_2 : decode (jm_cd mY_Ne_clear) 2 = .ok (.putfield 9, 3) := by decide +kernel
theorem d_Ne_clear_5 : decode (jm_cd mY_Ne_clear) 5 = .ok (.aload_n 0, 1) := by decide +kernel
theorem d_Ne_clear_6 : decode (jm_cd mY_Ne_clear) 6 = .ok (.iconst 0, 1) := by decide +kernel
theorem d_Ne_clear_7 : decode (jm_cd mY_Ne_clear) 7 = .ok (.putfield 44, 3) := by decide +kernel
theorem d_Ne_clear_10 : decode (jm_cd mY_Ne_clear) 10 = .ok (.aload_n 0, 1) := by decide +kernel
theorem d_Ne_clear_11 : decode (jm_cd mY_Ne_clear) 11 = .ok (.lconst 0, 1) := by decide +kernel
theorem d_Ne_clear_12 : decode (jm_cd mY_Ne_clear) 12 = .ok (.putfield 47, 3) := by decide +kernel
theorem d_Ne_clear_15 : decode (jm_cd mY_Ne_clear) 15 = .ok (.iconst 0, 1) := by decide +kernel
theorem d_Ne_clear_16 : decode (jm_cd mY_Ne_clear) 16 = .ok (.istore_n 1, 1) := by decide +kernel
theorem d_Ne_clear_17 : decode (jm_cd mY_Ne_clear) 17 = .ok (.iload_n 1, 1) := by decide +kernel
theorem d_Ne_clear_18 : decode (jm_cd mY_Ne_clear) 18 = .ok (.bipush 10, 2) := by decide +kernel
theorem d_Ne_clear_20 : decode (jm_cd mY_Ne_clear) 20 = .ok (.if_icmp .ge 66, 3) := by decide +kernel
theorem d_Ne_clear_23 : decode (jm_cd mY_Ne_clear) 23 = .ok (.aload_n 0, 1) := by decide +kernel
theorem d_Ne_clear_24 : decode (jm_cd mY_Ne_clear) 24 = .ok (.getfield 15, 3) := by decide +kernel
theorem d_Ne_clear_27 : decode (jm_cd mY_Ne_clear) 27 = .ok (.iload_n 1, 1) := by decide +kernel
theorem d_Ne_clear_28 : decode (jm_cd mY_Ne_clear) 28 = .ok (.iconst (-1), 1) := by decide +kernel
theorem d_Ne_clear_29 : decode (jm_cd mY_Ne_clear) 29 = .ok (.iastore, 1) := by decide +kernel
theorem d_Ne_clear_30 : decode (jm_cd mY_Ne_clear) 30 = .ok (.aload_n 0, 1) := by decide +kernel
theorem d_Ne_clear_31 : decode (jm_cd mY_Ne_clear) 31 = .ok (.getfield 19, 3) := by decide +kernel
theorem d_Ne_clear_34 : decode (jm_cd mY_Ne_clear) 34 = .ok (.iload_n 1, 1) := by decide +kernel
theorem d_Ne_clear_35 : decode (jm_cd mY_Ne_clear) 35 = .ok (.iconst 0, 1) := by decide +kernel
theorem d_Ne_clear_36 : decode (jm_cd mY_Ne_clear) 36 = .ok (.iastore, 1) := by decide +kernel
theorem d_Ne_clear_37 : decode (jm_cd mY_Ne_clear) 37 = .ok (.aload_n 0, 1) := by decide +kernel
theorem d_Ne_clear_38 : decode (jm_cd mY_Ne_clear) 38 = .ok (.getfield 22, 3) := by decide +kernel
theorem d_Ne_clear_41 : decode (jm_cd mY_Ne_clear) 41 = .ok (.iload_n 1, 1) := by decide +kernel
theorem d_Ne_clear_42 : decode (jm_cd mY_Ne_clear) 42 = .ok (.iconst 1, 1) := by decide +kernel
theorem d_Ne_clear_43 : decode (jm_cd mY_Ne_clear) 43 = .ok (.iastore, 1) := by decide +kernel
theorem d_Ne_clear_44 : decode (jm_cd mY_Ne_clear) 44 = .ok (.aload_n 0, 1) := by decide +kernel
theorem d_Ne_clear_45 : decode (jm_cd mY_Ne_clear) 45 = .ok (.getfield 25, 3) := by decide +kernel
theorem d_Ne_clear_48 : decode (jm_cd mY_Ne_clear) 48 = .ok (.iload_n 1, 1) := by decide +kernel
theorem d_Ne_clear_49 : decode (jm_cd mY_Ne_clear) 49 = .ok (.iconst 1, 1) := by decide +kernel
theorem d_Ne_clear_50 : decode (jm_cd mY_Ne_clear) 50 = .ok (.iastore, 1) := by decide +kernel
theorem d_Ne_clear_51 : decode (jm_cd mY_Ne_clear) 51 = .ok (.aload_n 0, 1) := by decide +kernel
theorem d_Ne_clear_52 : decode (jm_cd mY_Ne_clear) 52 = .ok (.getfield 28, 3) := by decide +kernel
theorem d_Ne_clear_55 : decode (jm_cd mY_Ne_clear) 55 = .ok (.iload_n 1, 1) := by decide +kernel
theorem d_Ne_clear_56 : decode (jm_cd mY_Ne_clear) 56 = .ok (.bipush 99, 2) := by decide +kernel
theorem d_Ne_clear_58 : decode (jm_cd mY_Ne_clear) 58 = .ok (.iastore, 1) := by decide +kernel
theorem d_Ne_clear_59 : decode (jm_cd mY_Ne_clear) 59 = .ok (.aload_n 0, 1) := by decide +kernel
theorem d_Ne_clear_60 : decode (jm_cd mY_Ne_clear) 60 = .ok (.getfield 31, 3) := by decide +kernel
theorem d_Ne_clear_63 : decode (jm_cd mY_Ne_clear) 63 = .ok (.iload_n 1, 1) := by decide +kernel
theorem d_Ne_clear_64 : decode (jm_cd mY_Ne_clear) 64 = .ok (.iconst (-1), 1) := by decide +kernel
theorem d_Ne_clear_65 : decode (jm_cd mY_Ne_clear) 65 = .ok (.iastore, 1) := by decide +kernel
theorem d_Ne_clear_66 : decode (jm_cd mY_Ne_clear) 66 = .ok (.aload_n 0, 1) := by decide +kernel
theorem d_Ne_clear_67 : decode (jm_cd mY_Ne_clear) 67 = .ok (.getfield 34, 3) := by decide +kernel
theorem d_Ne_clear_70 : decode (jm_cd mY_Ne_clear) 70 = .ok (.iload_n 1, 1) := by decide +kernel
theorem d_Ne_clear_71 : decode (jm_cd mY_Ne_clear) 71 = .ok (.lconst 0, 1) := by decide +kernel
theorem d_Ne_clear_72 : decode (jm_cd mY_Ne_clear) 72 = .ok (.lastore, 1) := by decide +kernel
theorem d_Ne_clear_73 : decode (jm_cd mY_Ne_clear) 73 = .ok (.aload_n 0, 1) := by decide +kernel
theorem d_Ne_clear_74 : decode (jm_cd mY_Ne_clear) 74 = .ok (.getfield 38, 3) := by decide +kernel
theorem d_Ne_clear_77 : decode (jm_cd mY_Ne_clear) 77 = .ok (.iload_n 1, 1) := by decide +kernel
theorem d_Ne_clear_78 : decode (jm_cd mY_Ne_clear) 78 = .ok (.lconst 0, 1) := by decide +kernel
theorem d_Ne_clear_79 : decode (jm_cd mY_Ne_clear) 79 = .ok (.lastore, 1) := by decide +kernel
theorem d_Ne_clear_80 : decode (jm_cd mY_Ne_clear) 80 = .ok (.iinc 1 1, 3) := by decide +kernel
theorem d_Ne_clear_83 : decode (jm_cd mY_Ne_clear) 83 = .ok (.goto (-66), 3) := by decide +kernel
theorem d_Ne_clear_86 : decode (jm_cd mY_Ne_clear) 86 = .ok (.iconst 0, 1) := by decide +kernel
theorem d_Ne_clear_87 : decode (jm_cd mY_Ne_clear) 87 = .ok (.istore_n 1, 1) := by decide +kernel
theorem d_Ne_clear_88 : decode (jm_cd mY_Ne_clear) 88 = .ok (.iload_n 1, 1) := by decide +kernel
theorem d_Ne_clear_89 : decode (jm_cd mY_Ne_clear) 89 = .ok (.bipush 100, 2) := by decide +kernel
theorem d_Ne_clear_91 : decode (jm_cd mY_Ne_clear) 91 = .ok (.if_icmp .ge 16, 3) := by decide +kernel
theorem d_Ne_clear_94 : decode (jm_cd mY_Ne_clear) 94 = .ok (.aload_n 0, 1) := by decide +kernel
theorem d_Ne_clear_95 : decode (jm_cd mY_Ne_clear) 95 = .ok (.getfield 41, 3) := by decide +kernel
theorem d_Ne_clear_98 : decode (jm_cd mY_Ne_clear) 98 = .ok (.iload_n 1, 1) := by decide +kernel
theorem d_Ne_clear_99 : decode (jm_cd mY_Ne_clear) 99 = .ok (.lconst 0, 1) := by decide +kernel
theorem d_Ne_clear_100 : decode (jm_cd mY_Ne_clear) 100 = .ok (.lastore, 1) := by decide +kernel
theorem d_Ne_clear_101 : decode (jm_cd mY_Ne_clear) 101 = .ok (.iinc 1 1, 3) := by decide +kernel
theorem d_Ne_clear_104 : decode (jm_cd mY_Ne_clear) 104 = .ok (.goto (-16), 3) := by decide +kernel
theorem d_Ne_clear_107 : decode (jm_cd mY_Ne_clear) 107 = .ok (.return_, 1) := by decide +kernel
def s_Ne_clear_5_t26_L88 : Nat → Int32 → jm_M → Option jm_M
  | 0, _, _ => none
  | n + 1, x1, s => (if 100 ≤ x1 then (some s) else jm_stl s 14 100 x1 0 (fun s4 => s_Ne_clear_5_t26_L88 n (x1 + 1) s4))
set_option maxRecDepth 100000 in
set_option maxHeartbeats 4000000 in
theorem s_Ne_clear_5_t26_L88_ok : ∀ (n : Nat) (x1 : Int32) (s : jm_M), jm_Sim mY_Ne_clear 0 0 88 [(0, .ref 5), (1, .int x1)] [] 14 mr_26 s (s_Ne_clear_5_t26_L88 n x1 s) (jm_rV 14 mr_26) := by
  intro n
  induction n with
  | zero => intro x1 s; exact jm_none
  | succ n ih =>
    intro x1 s
    rw [s_Ne_clear_5_t26_L88]
    refine jm_iload_n (pc := 88) (q := 1) (x := x1) d_Ne_clear_88 rfl ?_
    refine jm_bipush (pc := 89) (v := 100) d_Ne_clear_89 cb_100 ?_
    refine jm_icmp_ge (pc := 91) (tgt := 107) d_Ne_clear_91 (by decide) ?_ ?_
    · exact jm_vret (pc := 107) d_Ne_clear_107 rfl rfl rfl rfl
    · refine jm_aload_n (pc := 94) (q := 0) (x := 5) d_Ne_clear_94 rfl ?_
      refine jm_gr (pc := 95) (i := 5) d_Ne_clear_95 fo_Ne_41 sh_5 ge_5 le_5_14 rfl (fun _ => rfl) mr_26_5_9 ge_14 ?_
      refine jm_iload_n (pc := 98) (q := 1) (x := x1) d_Ne_clear_98 rfl ?_
      refine jm_lconst (pc := 99) (v := 0) d_Ne_clear_99 cl_0 ?_
      refine jm_last (pc := 100) d_Ne_clear_100 sh_14 ge_14 le_14_14 (fun s4 => ?_)
      refine jm_iinc (pc := 101) (q := 1) (x := x1) (v := 1) (L2 := [(1, .int (x1 + 1)), (0, .ref 5)]) d_Ne_clear_101 rfl ci_1 (Nat.le_of_ble_eq_true rfl) rfl ?_
      refine jm_goto (pc := 104) (tgt := 88) d_Ne_clear_104 (by decide) ?_
      refine jm_sub (L2 := [(0, .ref 5), (1, .int (x1 + 1))]) [1, 0] rfl ?_
      exact ih (x1 + 1) s4
def s_Ne_clear_5_t26_L17 : Nat → Int32 → jm_M → Option jm_M
  | 0, _, _ => none
  | n + 1, x1, s => (if 10 ≤ x1 then s_Ne_clear_5_t26_L88 5000 0 s else jm_sti s 6 10 x1 (-1) (fun s5 => jm_sti s5 7 10 x1 0 (fun s6 => jm_sti s6 8 10 x1 1 (fun s7 => jm_sti s7 9 10 x1 1 (fun s8 => jm_sti s8 10 10 x1 99 (fun s9 => jm_sti s9 11 10 x1 (-1) (fun s10 => jm_stl s10 12 10 x1 0 (fun s11 => jm_stl s11 13 10 x1 0 (fun s12 => s_Ne_clear_5_t26_L17 n (x1 + 1) s12)))))))))
set_option maxRecDepth 100000 in
set_option maxHeartbeats 4000000 in
theorem s_Ne_clear_5_t26_L17_ok : ∀ (n : Nat) (x1 : Int32) (s : jm_M), jm_Sim mY_Ne_clear 0 0 17 [(0, .ref 5), (1, .int x1)] [] 14 mr_26 s (s_Ne_clear_5_t26_L17 n x1 s) (jm_rV 14 mr_26) := by
  intro n
  induction n with
  | zero => intro x1 s; exact jm_none
  | succ n ih =>
    intro x1 s
    rw [s_Ne_clear_5_t26_L17]
    refine jm_iload_n (pc := 17) (q := 1) (x := x1) d_Ne_clear_17 rfl ?_
    refine jm_bipush (pc := 18) (v := 10) d_Ne_clear_18 cb_10 ?_
    refine jm_icmp_ge (pc := 20) (tgt := 86) d_Ne_clear_20 (by decide) ?_ ?_
    · refine jm_iconst (pc := 86) (v := 0) d_Ne_clear_86 ci_0 ?_
      refine jm_istore_n (pc := 87) (i := 1) (L2 := [(1, .int 0), (0, .ref 5)]) d_Ne_clear_87 rfl (Nat.le_of_ble_eq_true rfl) rfl ?_
      refine jm_sub (L2 := [(0, .ref 5), (1, .int 0)]) [1, 0] rfl ?_
      exact s_Ne_clear_5_t26_L88_ok 5000 0 s
    · refine jm_aload_n (pc := 23) (q := 0) (x := 5) d_Ne_clear_23 rfl ?_
      refine jm_gr (pc := 24) (i := 5) d_Ne_clear_24 fo_Ne_15 sh_5 ge_5 le_5_14 rfl (fun _ => rfl) mr_26_5_1 ge_6 ?_
      refine jm_iload_n (pc := 27) (q := 1) (x := x1) d_Ne_clear_27 rfl ?_
      refine jm_iconst (pc := 28) (v := (-1)) d_Ne_clear_28 ci_m1 ?_
      refine jm_iast (pc := 29) d_Ne_clear_29 sh_6 ge_6 le_6_14 (fun s5 => ?_)
      refine jm_aload_n (pc := 30) (q := 0) (x := 5) d_Ne_clear_30 rfl ?_
      refine jm_gr (pc := 31) (i := 5) d_Ne_clear_31 fo_Ne_19 sh_5 ge_5 le_5_14 rfl (fun _ => rfl) mr_26_5_2 ge_7 ?_
      refine jm_iload_n (pc := 34) (q := 1) (x := x1) d_Ne_clear_34 rfl ?_
      refine jm_iconst (pc := 35) (v := 0) d_Ne_clear_35 ci_0 ?_
      refine jm_iast (pc := 36) d_Ne_clear_36 sh_7 ge_7 le_7_14 (fun s6 => ?_)
      refine jm_aload_n (pc := 37) (q := 0) (x := 5) d_Ne_clear_37 rfl ?_
      refine jm_gr (pc := 38) (i := 5) d_Ne_clear_38 fo_Ne_22 sh_5 ge_5 le_5_14 rfl (fun _ => rfl) mr_26_5_3 ge_8 ?_
      refine jm_iload_n (pc := 41) (q := 1) (x := x1) d_Ne_clear_41 rfl ?_
      refine jm_iconst (pc := 42) (v := 1) d_Ne_clear_42 ci_1 ?_
      refine jm_iast (pc := 43) d_Ne_clear_43 sh_8 ge_8 le_8_14 (fun s7 => ?_)
      refine jm_aload_n (pc := 44) (q := 0) (x := 5) d_Ne_clear_44 rfl ?_
      refine jm_gr (pc := 45) (i := 5) d_Ne_clear_45 fo_Ne_25 sh_5 ge_5 le_5_14 rfl (fun _ => rfl) mr_26_5_4 ge_9 ?_
      refine jm_iload_n (pc := 48) (q := 1) (x := x1) d_Ne_clear_48 rfl ?_
      refine jm_iconst (pc := 49) (v := 1) d_Ne_clear_49 ci_1 ?_
      refine jm_iast (pc := 50) d_Ne_clear_50 sh_9 ge_9 le_9_14 (fun s8 => ?_)
      refine jm_aload_n (pc := 51) (q := 0) (x := 5) d_Ne_clear_51 rfl ?_
      refine jm_gr (pc := 52) (i := 5) d_Ne_clear_52 fo_Ne_28 sh_5 ge_5 le_5_14 rfl (fun _ => rfl) mr_26_5_5 ge_10 ?_
      refine jm_iload_n (pc := 55) (q := 1) (x := x1) d_Ne_clear_55 rfl ?_
      refine jm_bipush (pc := 56) (v := 99) d_Ne_clear_56 cb_99 ?_
      refine jm_iast (pc := 58) d_Ne_clear_58 sh_10 ge_10 le_10_14 (fun s9 => ?_)
      refine jm_aload_n (pc := 59) (q := 0) (x := 5) d_Ne_clear_59 rfl ?_
      refine jm_gr (pc := 60) (i := 5) d_Ne_clear_60 fo_Ne_31 sh_5 ge_5 le_5_14 rfl (fun _ => rfl) mr_26_5_6 ge_11 ?_
      refine jm_iload_n (pc := 63) (q := 1) (x := x1) d_Ne_clear_63 rfl ?_
      refine jm_iconst (pc := 64) (v := (-1)) d_Ne_clear_64 ci_m1 ?_
      refine jm_iast (pc := 65) d_Ne_clear_65 sh_11 ge_11 le_11_14 (fun s10 => ?_)
      refine jm_aload_n (pc := 66) (q := 0) (x := 5) d_Ne_clear_66 rfl ?_
      refine jm_gr (pc := 67) (i := 5) d_Ne_clear_67 fo_Ne_34 sh_5 ge_5 le_5_14 rfl (fun _ => rfl) mr_26_5_7 ge_12 ?_
      refine jm_iload_n (pc := 70) (q := 1) (x := x1) d_Ne_clear_70 rfl ?_
      refine jm_lconst (pc := 71) (v := 0) d_Ne_clear_71 cl_0 ?_
      refine jm_last (pc := 72) d_Ne_clear_72 sh_12 ge_12 le_12_14 (fun s11 => ?_)
      refine jm_aload_n (pc := 73) (q := 0) (x := 5) d_Ne_clear_73 rfl ?_
      refine jm_gr (pc := 74) (i := 5) d_Ne_clear_74 fo_Ne_38 sh_5 ge_5 le_5_14 rfl (fun _ => rfl) mr_26_5_8 ge_13 ?_
      refine jm_iload_n (pc := 77) (q := 1) (x := x1) d_Ne_clear_77 rfl ?_
      refine jm_lconst (pc := 78) (v := 0) d_Ne_clear_78 cl_0 ?_
      refine jm_last (pc := 79) d_Ne_clear_79 sh_13 ge_13 le_13_14 (fun s12 => ?_)
      refine jm_iinc (pc := 80) (q := 1) (x := x1) (v := 1) (L2 := [(1, .int (x1 + 1)), (0, .ref 5)]) d_Ne_clear_80 rfl ci_1 (Nat.le_of_ble_eq_true rfl) rfl ?_
      refine jm_goto (pc := 83) (tgt := 17) d_Ne_clear_83 (by decide) ?_
      refine jm_sub (L2 := [(0, .ref 5), (1, .int (x1 + 1))]) [1, 0] rfl ?_
      exact ih (x1 + 1) s12
def s_Ne_clear_5_t26 (s : jm_M) : Option jm_M := jm_ev (jm_si s 5 0 0) (fun s1 => jm_ev (jm_si s1 5 10 0) (fun s2 => jm_ev (jm_sl s2 5 11 0) (fun s3 => s_Ne_clear_5_t26_L17 5000 0 s3)))
set_option maxRecDepth 100000 in
set_option maxHeartbeats 4000000 in
theorem s_Ne_clear_5_t26_ok (s : jm_M) : jm_Sim mY_Ne_clear 0 0 0 [(0, .ref 5)] [] 14 mr_26 s (s_Ne_clear_5_t26 s) (jm_rV 14 mr_26) := by
  unfold s_Ne_clear_5_t26
  refine jm_aload_n (pc := 0) (q := 0) (x := 5) d_Ne_clear_0 rfl ?_
  refine jm_iconst (pc := 1) (v := 0) d_Ne_clear_1 ci_0 ?_
  refine jm_pi (pc := 2) (i := 5) d_Ne_clear_2 fp_Ne_9 sh_5 ge_5 le_5_14 rfl rfl rfl (fun _ _ _ => rfl) (fun s1 => ?_)
  refine jm_aload_n (pc := 5) (q := 0) (x := 5) d_Ne_clear_5 rfl ?_
  refine jm_iconst (pc := 6) (v := 0) d_Ne_clear_6 ci_0 ?_
  refine jm_pi (pc := 7) (i := 5) d_Ne_clear_7 fp_Ne_44 sh_5 ge_5 le_5_14 rfl rfl rfl (fun _ _ _ => rfl) (fun s2 => ?_)
  refine jm_aload_n (pc := 10) (q := 0) (x := 5) d_Ne_clear_10 rfl ?_
  refine jm_lconst (pc := 11) (v := 0) d_Ne_clear_11 cl_0 ?_
  refine jm_pl (pc := 12) (i := 5) d_Ne_clear_12 fp_Ne_47 sh_5 ge_5 le_5_14 rfl (fun s3 => ?_)
  refine jm_iconst (pc := 15) (v := 0) d_Ne_clear_15 ci_0 ?_
  refine jm_istore_n (pc := 16) (i := 1) (L2 := [(1, .int 0), (0, .ref 5)]) d_Ne_clear_16 rfl (Nat.le_of_ble_eq_true rfl) rfl ?_
  refine jm_sub (L2 := [(0, .ref 5), (1, .int 0)]) [1, 0] rfl ?_
  exact s_Ne_clear_5_t26_L17_ok 5000 0 s3
theorem d_Ne_init_0 : decode (jm_cd mY_Ne_init) 0 = .ok (.aload_n 0, 1) := by decide +kernel
theorem d_Ne_init_1 : decode (jm_cd mY_Ne_init) 1 = .ok (.invokespecial 3, 3) := by decide +kernel
theorem d_Ne_init_4 : decode (jm_cd mY_Ne_init) 4 = .ok (.aload_n 0, 1) := by decide +kernel
theorem d_Ne_init_5 : decode (jm_cd mY_Ne_init) 5 = .ok (.iconst 0, 1) := by decide +kernel
theorem d_Ne_init_6 : decode (jm_cd mY_Ne_init) 6 = .ok (.putfield 9, 3) := by decide +kernel
theorem d_Ne_init_9 : decode (jm_cd mY_Ne_init) 9 = .ok (.aload_n 0, 1) := by decide +kernel
theorem d_Ne_init_10 : decode (jm_cd mY_Ne_init) 10 = .ok (.bipush 10, 2) := by decide +kernel
theorem d_Ne_init_12 : decode (jm_cd mY_Ne_init) 12 = .ok (.newarray .int, 2) := by decide +kernel
theorem d_Ne_init_14 : decode (jm_cd mY_Ne_init) 14 = .ok (.putfield 15, 3) := by decide +kernel
theorem d_Ne_init_17 : decode (jm_cd mY_Ne_init) 17 = .ok (.aload_n 0, 1) := by decide +kernel
theorem d_Ne_init_18 : decode (jm_cd mY_Ne_init) 18 = .ok (.bipush 10, 2) := by decide +kernel
theorem d_Ne_init_20 : decode (jm_cd mY_Ne_init) 20 = .ok (.newarray .int, 2) := by decide +kernel
theorem d_Ne_init_22 : decode (jm_cd mY_Ne_init) 22 = .ok (.putfield 19, 3) := by decide +kernel
theorem d_Ne_init_25 : decode (jm_cd mY_Ne_init) 25 = .ok (.aload_n 0, 1) := by decide +kernel
theorem d_Ne_init_26 : decode (jm_cd mY_Ne_init) 26 = .ok (.bipush 10, 2) := by decide +kernel
theorem d_Ne_init_28 : decode (jm_cd mY_Ne_init) 28 = .ok (.newarray .int, 2) := by decide +kernel
theorem d_Ne_init_30 : decode (jm_cd mY_Ne_init) 30 = .ok (.putfield 22, 3) := by decide +kernel
theorem d_Ne_init_33 : decode (jm_cd mY_Ne_init) 33 = .ok (.aload_n 0, 1) := by decide +kernel
theorem d_Ne_init_34 : decode (jm_cd mY_Ne_init) 34 = .ok (.bipush 10, 2) := by decide +kernel
theorem d_Ne_init_36 : decode (jm_cd mY_Ne_init) 36 = .ok (.newarray .int, 2) := by decide +kernel
theorem d_Ne_init_38 : decode (jm_cd mY_Ne_init) 38 = .ok (.putfield 25, 3) := by decide +kernel
theorem d_Ne_init_41 : decode (jm_cd mY_Ne_init) 41 = .ok (.aload_n 0, 1) := by decide +kernel
theorem d_Ne_init_42 : decode (jm_cd mY_Ne_init) 42 = .ok (.bipush 10, 2) := by decide +kernel
theorem d_Ne_init_44 : decode (jm_cd mY_Ne_init) 44 = .ok (.newarray .int, 2) := by decide +kernel
theorem d_Ne_init_46 : decode (jm_cd mY_Ne_init) 46 = .ok (.putfield 28, 3) := by decide +kernel
theorem d_Ne_init_49 : decode (jm_cd mY_Ne_init) 49 = .ok (.aload_n 0, 1) := by decide +kernel
theorem d_Ne_init_50 : decode (jm_cd mY_Ne_init) 50 = .ok (.bipush 10, 2) := by decide +kernel
theorem d_Ne_init_52 : decode (jm_cd mY_Ne_init) 52 = .ok (.newarray .int, 2) := by decide +kernel
theorem d_Ne_init_54 : decode (jm_cd mY_Ne_init) 54 = .ok (.putfield 31, 3) := by decide +kernel
theorem d_Ne_init_57 : decode (jm_cd mY_Ne_init) 57 = .ok (.aload_n 0, 1) := by decide +kernel
theorem d_Ne_init_58 : decode (jm_cd mY_Ne_init) 58 = .ok (.bipush 10, 2) := by decide +kernel
theorem d_Ne_init_60 : decode (jm_cd mY_Ne_init) 60 = .ok (.newarray .long, 2) := by decide +kernel
theorem d_Ne_init_62 : decode (jm_cd mY_Ne_init) 62 = .ok (.putfield 34, 3) := by decide +kernel
theorem d_Ne_init_65 : decode (jm_cd mY_Ne_init) 65 = .ok (.aload_n 0, 1) := by decide +kernel
theorem d_Ne_init_66 : decode (jm_cd mY_Ne_init) 66 = .ok (.bipush 10, 2) := by decide +kernel
theorem d_Ne_init_68 : decode (jm_cd mY_Ne_init) 68 = .ok (.newarray .long, 2) := by decide +kernel
theorem d_Ne_init_70 : decode (jm_cd mY_Ne_init) 70 = .ok (.putfield 38, 3) := by decide +kernel
theorem d_Ne_init_73 : decode (jm_cd mY_Ne_init) 73 = .ok (.aload_n 0, 1) := by decide +kernel
theorem d_Ne_init_74 : decode (jm_cd mY_Ne_init) 74 = .ok (.bipush 100, 2) := by decide +kernel
theorem d_Ne_init_76 : decode (jm_cd mY_Ne_init) 76 = .ok (.newarray .long, 2) := by decide +kernel
theorem d_Ne_init_78 : decode (jm_cd mY_Ne_init) 78 = .ok (.putfield 41, 3) := by decide +kernel
theorem d_Ne_init_81 : decode (jm_cd mY_Ne_init) 81 = .ok (.aload_n 0, 1) := by decide +kernel
theorem d_Ne_init_82 : decode (jm_cd mY_Ne_init) 82 = .ok (.iconst 0, 1) := by decide +kernel
theorem d_Ne_init_83 : decode (jm_cd mY_Ne_init) 83 = .ok (.putfield 44, 3) := by decide +kernel
theorem d_Ne_init_86 : decode (jm_cd mY_Ne_init) 86 = .ok (.aload_n 0, 1) := by decide +kernel
theorem d_Ne_init_87 : decode (jm_cd mY_Ne_init) 87 = .ok (.lconst 0, 1) := by decide +kernel
theorem d_Ne_init_88 : decode (jm_cd mY_Ne_init) 88 = .ok (.putfield 47, 3) := by decide +kernel
theorem d_Ne_init_91 : decode (jm_cd mY_Ne_init) 91 = .ok (.aload_n 0, 1) := by decide +kernel
theorem d_Ne_init_92 : decode (jm_cd mY_Ne_init) 92 = .ok (.invokevirtual 51, 3) := by decide +kernel
theorem d_Ne_init_95 : decode (jm_cd mY_Ne_init) 95 = .ok (.return_, 1) := by decide +kernel
def s_Ne_init_5 (s : jm_M) : Option jm_M := jm_ev (jm_si s 5 0 0) (fun s1 => jm_ev (jm_z s1 6) (fun s2 => jm_ev (jm_z s2 7) (fun s3 => jm_ev (jm_z s3 8) (fun s4 => jm_ev (jm_z s4 9) (fun s5 => jm_ev (jm_z s5 10) (fun s6 => jm_ev (jm_z s6 11) (fun s7 => jm_ev (jm_z s7 12) (fun s8 => jm_ev (jm_z s8 13) (fun s9 => jm_ev (jm_z s9 14) (fun s10 => jm_ev (jm_si s10 5 10 0) (fun s11 => jm_ev (jm_sl s11 5 11 0) (fun s12 => jm_bd (s_Ne_clear_5_t26 s12) (fun s13 => (some s13))))))))))))))
set_option maxRecDepth 100000 in
set_option maxHeartbeats 4000000 in
theorem s_Ne_init_5_ok (s : jm_M) : jm_Sim mY_Ne_init 0 0 0 [(0, .ref 5)] [] 5 mr_8 s (s_Ne_init_5 s) (jm_rV 14 mr_26) := by
  unfold s_Ne_init_5
  refine jm_aload_n (pc := 0) (q := 0) (x := 5) d_Ne_init_0 rfl ?_
  refine jm_oinit (pc := 1) d_Ne_init_1 mlo_Ne_3 oi_im oi_cd (Nat.le_of_ble_eq_true rfl) (Nat.le_of_ble_eq_true rfl) ?_
  refine jm_aload_n (pc := 4) (q := 0) (x := 5) d_Ne_init_4 rfl ?_
  refine jm_iconst (pc := 5) (v := 0) d_Ne_init_5 ci_0 ?_
  refine jm_pi (pc := 6) (i := 5) d_Ne_init_6 fp_Ne_9 sh_5 ge_5 le_5_5 rfl rfl rfl (fun _ _ _ => rfl) (fun s1 => ?_)
  refine jm_aload_n (pc := 9) (q := 0) (x := 5) d_Ne_init_9 rfl ?_
  refine jm_bipush (pc := 10) (v := 10) d_Ne_init_10 cb_10 ?_
  refine jm_nai (pc := 12) (N := 10) d_Ne_init_12 ac_int (by decide) (by decide) (by decide) sh_6 (Nat.le_of_ble_eq_true rfl) (Nat.le_of_ble_eq_true rfl) (fun s2 => ?_)
  show jm_Sim _ 1 10 14 [(0, .ref 5)] [.ref 6, .ref 5] 6 mr_9 s2 _ _
  refine jm_pr (pc := 14) (i := 5) (q := 6) d_Ne_init_14 fp_Ne_15 (fun _ => rfl) sh_5 ge_5 le_5_6 ge_6 rfl (fun _ => rfl) (fun _ => rfl) (fun _ _ _ => rfl) ?_
  refine jm_aload_n (pc := 17) (q := 0) (x := 5) d_Ne_init_17 rfl ?_
  refine jm_bipush (pc := 18) (v := 10) d_Ne_init_18 cb_10 ?_
  refine jm_nai (pc := 20) (N := 10) d_Ne_init_20 ac_int (by decide) (by decide) (by decide) sh_7 (Nat.le_of_ble_eq_true rfl) (Nat.le_of_ble_eq_true rfl) (fun s3 => ?_)
  show jm_Sim _ 2 20 22 [(0, .ref 5)] [.ref 7, .ref 5] 7 mr_11 s3 _ _
  refine jm_pr (pc := 22) (i := 5) (q := 7) d_Ne_init_22 fp_Ne_19 (fun _ => rfl) sh_5 ge_5 le_5_7 ge_7 rfl (fun _ => rfl) (fun _ => rfl) (fun _ _ _ => rfl) ?_
  refine jm_aload_n (pc := 25) (q := 0) (x := 5) d_Ne_init_25 rfl ?_
  refine jm_bipush (pc := 26) (v := 10) d_Ne_init_26 cb_10 ?_
  refine jm_nai (pc := 28) (N := 10) d_Ne_init_28 ac_int (by decide) (by decide) (by decide) sh_8 (Nat.le_of_ble_eq_true rfl) (Nat.le_of_ble_eq_true rfl) (fun s4 => ?_)
  show jm_Sim _ 3 30 30 [(0, .ref 5)] [.ref 8, .ref 5] 8 mr_13 s4 _ _
  refine jm_pr (pc := 30) (i := 5) (q := 8) d_Ne_init_30 fp_Ne_22 (fun _ => rfl) sh_5 ge_5 le_5_8 ge_8 rfl (fun _ => rfl) (fun _ => rfl) (fun _ _ _ => rfl) ?_
  refine jm_aload_n (pc := 33) (q := 0) (x := 5) d_Ne_init_33 rfl ?_
  refine jm_bipush (pc := 34) (v := 10) d_Ne_init_34 cb_10 ?_
  refine jm_nai (pc := 36) (N := 10) d_Ne_init_36 ac_int (by decide) (by decide) (by decide) sh_9 (Nat.le_of_ble_eq_true rfl) (Nat.le_of_ble_eq_true rfl) (fun s5 => ?_)
  show jm_Sim _ 4 40 38 [(0, .ref 5)] [.ref 9, .ref 5] 9 mr_15 s5 _ _
  refine jm_pr (pc := 38) (i := 5) (q := 9) d_Ne_init_38 fp_Ne_25 (fun _ => rfl) sh_5 ge_5 le_5_9 ge_9 rfl (fun _ => rfl) (fun _ => rfl) (fun _ _ _ => rfl) ?_
  refine jm_aload_n (pc := 41) (q := 0) (x := 5) d_Ne_init_41 rfl ?_
  refine jm_bipush (pc := 42) (v := 10) d_Ne_init_42 cb_10 ?_
  refine jm_nai (pc := 44) (N := 10) d_Ne_init_44 ac_int (by decide) (by decide) (by decide) sh_10 (Nat.le_of_ble_eq_true rfl) (Nat.le_of_ble_eq_true rfl) (fun s6 => ?_)
  show jm_Sim _ 5 50 46 [(0, .ref 5)] [.ref 10, .ref 5] 10 mr_17 s6 _ _
  refine jm_pr (pc := 46) (i := 5) (q := 10) d_Ne_init_46 fp_Ne_28 (fun _ => rfl) sh_5 ge_5 le_5_10 ge_10 rfl (fun _ => rfl) (fun _ => rfl) (fun _ _ _ => rfl) ?_
  refine jm_aload_n (pc := 49) (q := 0) (x := 5) d_Ne_init_49 rfl ?_
  refine jm_bipush (pc := 50) (v := 10) d_Ne_init_50 cb_10 ?_
  refine jm_nai (pc := 52) (N := 10) d_Ne_init_52 ac_int (by decide) (by decide) (by decide) sh_11 (Nat.le_of_ble_eq_true rfl) (Nat.le_of_ble_eq_true rfl) (fun s7 => ?_)
  show jm_Sim _ 6 60 54 [(0, .ref 5)] [.ref 11, .ref 5] 11 mr_19 s7 _ _
  refine jm_pr (pc := 54) (i := 5) (q := 11) d_Ne_init_54 fp_Ne_31 (fun _ => rfl) sh_5 ge_5 le_5_11 ge_11 rfl (fun _ => rfl) (fun _ => rfl) (fun _ _ _ => rfl) ?_
  refine jm_aload_n (pc := 57) (q := 0) (x := 5) d_Ne_init_57 rfl ?_
  refine jm_bipush (pc := 58) (v := 10) d_Ne_init_58 cb_10 ?_
  refine jm_nal (pc := 60) (N := 10) d_Ne_init_60 ac_long (by decide) (by decide) (by decide) sh_12 (Nat.le_of_ble_eq_true rfl) (Nat.le_of_ble_eq_true rfl) (fun s8 => ?_)
  show jm_Sim _ 7 70 62 [(0, .ref 5)] [.ref 12, .ref 5] 12 mr_21 s8 _ _
  refine jm_pr (pc := 62) (i := 5) (q := 12) d_Ne_init_62 fp_Ne_34 (fun _ => rfl) sh_5 ge_5 le_5_12 ge_12 rfl (fun _ => rfl) (fun _ => rfl) (fun _ _ _ => rfl) ?_
  refine jm_aload_n (pc := 65) (q := 0) (x := 5) d_Ne_init_65 rfl ?_
  refine jm_bipush (pc := 66) (v := 10) d_Ne_init_66 cb_10 ?_
  refine jm_nal (pc := 68) (N := 10) d_Ne_init_68 ac_long (by decide) (by decide) (by decide) sh_13 (Nat.le_of_ble_eq_true rfl) (Nat.le_of_ble_eq_true rfl) (fun s9 => ?_)
  show jm_Sim _ 8 80 70 [(0, .ref 5)] [.ref 13, .ref 5] 13 mr_23 s9 _ _
  refine jm_pr (pc := 70) (i := 5) (q := 13) d_Ne_init_70 fp_Ne_38 (fun _ => rfl) sh_5 ge_5 le_5_13 ge_13 rfl (fun _ => rfl) (fun _ => rfl) (fun _ _ _ => rfl) ?_
  refine jm_aload_n (pc := 73) (q := 0) (x := 5) d_Ne_init_73 rfl ?_
  refine jm_bipush (pc := 74) (v := 100) d_Ne_init_74 cb_100 ?_
  refine jm_nal (pc := 76) (N := 100) d_Ne_init_76 ac_long (by decide) (by decide) (by decide) sh_14 (Nat.le_of_ble_eq_true rfl) (Nat.le_of_ble_eq_true rfl) (fun s10 => ?_)
  show jm_Sim _ 9 180 78 [(0, .ref 5)] [.ref 14, .ref 5] 14 mr_25 s10 _ _
  refine jm_pr (pc := 78) (i := 5) (q := 14) d_Ne_init_78 fp_Ne_41 (fun _ => rfl) sh_5 ge_5 le_5_14 ge_14 rfl (fun _ => rfl) (fun _ => rfl) (fun _ _ _ => rfl) ?_
  refine jm_aload_n (pc := 81) (q := 0) (x := 5) d_Ne_init_81 rfl ?_
  refine jm_iconst (pc := 82) (v := 0) d_Ne_init_82 ci_0 ?_
  refine jm_pi (pc := 83) (i := 5) d_Ne_init_83 fp_Ne_44 sh_5 ge_5 le_5_14 rfl rfl rfl (fun _ _ _ => rfl) (fun s11 => ?_)
  refine jm_aload_n (pc := 86) (q := 0) (x := 5) d_Ne_init_86 rfl ?_
  refine jm_lconst (pc := 87) (v := 0) d_Ne_init_87 cl_0 ?_
  refine jm_pl (pc := 88) (i := 5) d_Ne_init_88 fp_Ne_47 sh_5 ge_5 le_5_14 rfl (fun s12 => ?_)
  refine jm_aload_n (pc := 91) (q := 0) (x := 5) d_Ne_init_91 rfl ?_
  refine jm_Vv (pc := 92) (Y' := mY_Ne_clear) (i := 5) (avs := []) (rest := []) (s_Ne_clear_5_t26_ok s12) ok_Ne_clear l0_Ne_init__Ne_clear ml_Ne_51 im_Ne_clear se_Ne_clear d_Ne_init_92 rfl sh_5 rfl rfl ge_5 le_5_14 rfl (Nat.le_of_ble_eq_true rfl) (Nat.le_of_ble_eq_true rfl) (Nat.le_of_ble_eq_true rfl) (Nat.le_of_ble_eq_true rfl) (fun s13 => ?_)
  exact jm_vret (pc := 95) d_Ne_init_95 rfl rfl rfl rfl
def s_Ne_clear_15_t46_L88 : Nat → Int32 → jm_M → Option jm_M
  | 0, _, _ => none
  | n + 1, x1, s => (if 100 ≤ x1 then (some s) else jm_stl s 24 100 x1 0 (fun s4 => s_Ne_clear_15_t46_L88 n (x1 + 1) s4))
set_option maxRecDepth 100000 in
set_option maxHeartbeats 4000000 in
theorem s_Ne_clear_15_t46_L88_ok : ∀ (n : Nat) (x1 : Int32) (s : jm_M), jm_Sim mY_Ne_clear 0 0 88 [(0, .ref 15), (1, .int x1)] [] 24 mr_46 s (s_Ne_clear_15_t46_L88 n x1 s) (jm_rV 24 mr_46) := by
  intro n
  induction n with
  | zero => intro x1 s; exact jm_none
  | succ n ih =>
    intro x1 s
    rw [s_Ne_clear_15_t46_L88]
    refine jm_iload_n (pc := 88) (q := 1) (x := x1) d_Ne_clear_88 rfl ?_
    refine jm_bipush (pc := 89) (v := 100) d_Ne_clear_89 cb_100 ?_
    refine jm_icmp_ge (pc := 91) (tgt := 107) d_Ne_clear_91 (by decide) ?_ ?_
    · exact jm_vret (pc := 107) d_Ne_clear_107 rfl rfl rfl rfl
    · refine jm_aload_n (pc := 94) (q := 0) (x := 15) d_Ne_clear_94 rfl ?_
      refine jm_gr (pc := 95) (i := 15) d_Ne_clear_95 fo_Ne_41 sh_15 ge_15 le_15_24 rfl (fun _ => rfl) mr_46_15_9 ge_24 ?_
      refine jm_iload_n (pc := 98) (q := 1) (x := x1) d_Ne_clear_98 rfl ?_
      refine jm_lconst (pc := 99) (v := 0) d_Ne_clear_99 cl_0 ?_
      refine jm_last (pc := 100) d_Ne_clear_100 sh_24 ge_24 le_24_24 (fun s4 => ?_)
      refine jm_iinc (pc := 101) (q := 1) (x := x1) (v := 1) (L2 := [(1, .int (x1 + 1)), (0, .ref 15)]) d_Ne_clear_101 rfl ci_1 (Nat.le_of_ble_eq_true rfl) rfl ?_
      refine jm_goto (pc := 104) (tgt := 88) d_Ne_clear_104 (by decide) ?_
      refine jm_sub (L2 := [(0, .ref 15), (1, .int (x1 + 1))]) [1, 0] rfl ?_
      exact ih (x1 + 1) s4
def s_Ne_clear_15_t46_L17 : Nat → Int32 → jm_M → Option jm_M
  | 0, _, _ => none
  | n + 1, x1, s => (if 10 ≤ x1 then s_Ne_clear_15_t46_L88 5000 0 s else jm_sti s 16 10 x1 (-1) (fun s5 => jm_sti s5 17 10 x1 0 (fun s6 => jm_sti s6 18 10 x1 1 (fun s7 => jm_sti s7 19 10 x1 1 (fun s8 => jm_sti s8 20 10 x1 99 (fun s9 => jm_sti s9 21 10 x1 (-1) (fun s10 => jm_stl s10 22 10 x1 0 (fun s11 => jm_stl s11 23 10 x1 0 (fun s12 => s_Ne_clear_15_t46_L17 n (x1 + 1) s12)))))))))
set_option maxRecDepth 100000 in
set_option maxHeartbeats 4000000 in
theorem s_Ne_clear_15_t46_L17_ok : ∀ (n : Nat) (x1 : Int32) (s : jm_M), jm_Sim mY_Ne_clear 0 0 17 [(0, .ref 15), (1, .int x1)] [] 24 mr_46 s (s_Ne_clear_15_t46_L17 n x1 s) (jm_rV 24 mr_46) := by
  intro n
  induction n with
  | zero => intro x1 s; exact jm_none
  | succ n ih =>
    intro x1 s
    rw [s_Ne_clear_15_t46_L17]
    refine jm_iload_n (pc := 17) (q := 1) (x := x1) d_Ne_clear_17 rfl ?_
    refine jm_bipush (pc := 18) (v := 10) d_Ne_clear_18 cb_10 ?_
    refine jm_icmp_ge (pc := 20) (tgt := 86) d_Ne_clear_20 (by decide) ?_ ?_
    · refine jm_iconst (pc := 86) (v := 0) d_Ne_clear_86 ci_0 ?_
      refine jm_istore_n (pc := 87) (i := 1) (L2 := [(1, .int 0), (0, .ref 15)]) d_Ne_clear_87 rfl (Nat.le_of_ble_eq_true rfl) rfl ?_
      refine jm_sub (L2 := [(0, .ref 15), (1, .int 0)]) [1, 0] rfl ?_
      exact s_Ne_clear_15_t46_L88_ok 5000 0 s
    · refine jm_aload_n (pc := 23) (q := 0) (x := 15) d_Ne_clear_23 rfl ?_
      refine jm_gr (pc := 24) (i := 15) d_Ne_clear_24 fo_Ne_15 sh_15 ge_15 le_15_24 rfl (fun _ => rfl) mr_46_15_1 ge_16 ?_
      refine jm_iload_n (pc := 27) (q := 1) (x := x1) d_Ne_clear_27 rfl ?_
      refine jm_iconst (pc := 28) (v := (-1)) d_Ne_clear_28 ci_m1 ?_
      refine jm_iast (pc := 29) d_Ne_clear_29 sh_16 ge_16 le_16_24 (fun s5 => ?_)
      refine jm_aload_n (pc := 30) (q := 0) (x := 15) d_Ne_clear_30 rfl ?_
      refine jm_gr (pc := 31) (i := 15) d_Ne_clear_31 fo_Ne_19 sh_15 ge_15 le_15_24 rfl (fun _ => rfl) mr_46_15_2 ge_17 ?_
      refine jm_iload_n (pc := 34) (q := 1) (x := x1) d_Ne_clear_34 rfl ?_
      refine jm_iconst (pc := 35) (v := 0) d_Ne_clear_35 ci_0 ?_
      refine jm_iast (pc := 36) d_Ne_clear_36 sh_17 ge_17 le_17_24 (fun s6 => ?_)
      refine jm_aload_n (pc := 37) (q := 0) (x := 15) d_Ne_clear_37 rfl ?_
      refine jm_gr (pc := 38) (i := 15) d_Ne_clear_38 fo_Ne_22 sh_15 ge_15 le_15_24 rfl (fun _ => rfl) mr_46_15_3 ge_18 ?_
      refine jm_iload_n (pc := 41) (q := 1) (x := x1) d_Ne_clear_41 rfl ?_
      refine jm_iconst (pc := 42) (v := 1) d_Ne_clear_42 ci_1 ?_
      refine jm_iast (pc := 43) d_Ne_clear_43 sh_18 ge_18 le_18_24 (fun s7 => ?_)
      refine jm_aload_n (pc := 44) (q := 0) (x := 15) d_Ne_clear_44 rfl ?_
      refine jm_gr (pc := 45) (i := 15) d_Ne_clear_45 fo_Ne_25 sh_15 ge_15 le_15_24 rfl (fun _ => rfl) mr_46_15_4 ge_19 ?_
      refine jm_iload_n (pc := 48) (q := 1) (x := x1) d_Ne_clear_48 rfl ?_
      refine jm_iconst (pc := 49) (v := 1) d_Ne_clear_49 ci_1 ?_
      refine jm_iast (pc := 50) d_Ne_clear_50 sh_19 ge_19 le_19_24 (fun s8 => ?_)
      refine jm_aload_n (pc := 51) (q := 0) (x := 15) d_Ne_clear_51 rfl ?_
      refine jm_gr (pc := 52) (i := 15) d_Ne_clear_52 fo_Ne_28 sh_15 ge_15 le_15_24 rfl (fun _ => rfl) mr_46_15_5 ge_20 ?_
      refine jm_iload_n (pc := 55) (q := 1) (x := x1) d_Ne_clear_55 rfl ?_
      refine jm_bipush (pc := 56) (v := 99) d_Ne_clear_56 cb_99 ?_
      refine jm_iast (pc := 58) d_Ne_clear_58 sh_20 ge_20 le_20_24 (fun s9 => ?_)
      refine jm_aload_n (pc := 59) (q := 0) (x := 15) d_Ne_clear_59 rfl ?_
      refine jm_gr (pc := 60) (i := 15) d_Ne_clear_60 fo_Ne_31 sh_15 ge_15 le_15_24 rfl (fun _ => rfl) mr_46_15_6 ge_21 ?_
      refine jm_iload_n (pc := 63) (q := 1) (x := x1) d_Ne_clear_63 rfl ?_
      refine jm_iconst (pc := 64) (v := (-1)) d_Ne_clear_64 ci_m1 ?_
      refine jm_iast (pc := 65) d_Ne_clear_65 sh_21 ge_21 le_21_24 (fun s10 => ?_)
      refine jm_aload_n (pc := 66) (q := 0) (x := 15) d_Ne_clear_66 rfl ?_
      refine jm_gr (pc := 67) (i := 15) d_Ne_clear_67 fo_Ne_34 sh_15 ge_15 le_15_24 rfl (fun _ => rfl) mr_46_15_7 ge_22 ?_
      refine jm_iload_n (pc := 70) (q := 1) (x := x1) d_Ne_clear_70 rfl ?_
      refine jm_lconst (pc := 71) (v := 0) d_Ne_clear_71 cl_0 ?_
      refine jm_last (pc := 72) d_Ne_clear_72 sh_22 ge_22 le_22_24 (fun s11 => ?_)
      refine jm_aload_n (pc := 73) (q := 0) (x := 15) d_Ne_clear_73 rfl ?_
      refine jm_gr (pc := 74) (i := 15) d_Ne_clear_74 fo_Ne_38 sh_15 ge_15 le_15_24 rfl (fun _ => rfl) mr_46_15_8 ge_23 ?_
      refine jm_iload_n (pc := 77) (q := 1) (x := x1) d_Ne_clear_77 rfl ?_
      refine jm_lconst (pc := 78) (v := 0) d_Ne_clear_78 cl_0 ?_
      refine jm_last (pc := 79) d_Ne_clear_79 sh_23 ge_23 le_23_24 (fun s12 => ?_)
      refine jm_iinc (pc := 80) (q := 1) (x := x1) (v := 1) (L2 := [(1, .int (x1 + 1)), (0, .ref 15)]) d_Ne_clear_80 rfl ci_1 (Nat.le_of_ble_eq_true rfl) rfl ?_
      refine jm_goto (pc := 83) (tgt := 17) d_Ne_clear_83 (by decide) ?_
      refine jm_sub (L2 := [(0, .ref 15), (1, .int (x1 + 1))]) [1, 0] rfl ?_
      exact ih (x1 + 1) s12
def s_Ne_clear_15_t46 (s : jm_M) : Option jm_M := jm_ev (jm_si s 15 0 0) (fun s1 => jm_ev (jm_si s1 15 10 0) (fun s2 => jm_ev (jm_sl s2 15 11 0) (fun s3 => s_Ne_clear_15_t46_L17 5000 0 s3)))
set_option maxRecDepth 100000 in
set_option maxHeartbeats 4000000 in
theorem s_Ne_clear_15_t46_ok (s : jm_M) : jm_Sim mY_Ne_clear 0 0 0 [(0, .ref 15)] [] 24 mr_46 s (s_Ne_clear_15_t46 s) (jm_rV 24 mr_46) := by
  unfold s_Ne_clear_15_t46
  refine jm_aload_n (pc := 0) (q := 0) (x := 15) d_Ne_clear_0 rfl ?_
  refine jm_iconst (pc := 1) (v := 0) d_Ne_clear_1 ci_0 ?_
  refine jm_pi (pc := 2) (i := 15) d_Ne_clear_2 fp_Ne_9 sh_15 ge_15 le_15_24 rfl rfl rfl (fun _ _ _ => rfl) (fun s1 => ?_)
  refine jm_aload_n (pc := 5) (q := 0) (x := 15) d_Ne_clear_5 rfl ?_
  refine jm_iconst (pc := 6) (v := 0) d_Ne_clear_6 ci_0 ?_
  refine jm_pi (pc := 7) (i := 15) d_Ne_clear_7 fp_Ne_44 sh_15 ge_15 le_15_24 rfl rfl rfl (fun _ _ _ => rfl) (fun s2 => ?_)
  refine jm_aload_n (pc := 10) (q := 0) (x := 15) d_Ne_clear_10 rfl ?_
  refine jm_lconst (pc := 11) (v := 0) d_Ne_clear_11 cl_0 ?_
  refine jm_pl (pc := 12) (i := 15) d_Ne_clear_12 fp_Ne_47 sh_15 ge_15 le_15_24 rfl (fun s3 => ?_)
  refine jm_iconst (pc := 15) (v := 0) d_Ne_clear_15 ci_0 ?_
  refine jm_istore_n (pc := 16) (i := 1) (L2 := [(1, .int 0), (0, .ref 15)]) d_Ne_clear_16 rfl (Nat.le_of_ble_eq_true rfl) rfl ?_
  refine jm_sub (L2 := [(0, .ref 15), (1, .int 0)]) [1, 0] rfl ?_
  exact s_Ne_clear_15_t46_L17_ok 5000 0 s3
def s_Ne_init_15 (s : jm_M) : Option jm_M := jm_ev (jm_si s 15 0 0) (fun s1 => jm_ev (jm_z s1 16) (fun s2 => jm_ev (jm_z s2 17) (fun s3 => jm_ev (jm_z s3 18) (fun s4 => jm_ev (jm_z s4 19) (fun s5 => jm_ev (jm_z s5 20) (fun s6 => jm_ev (jm_z s6 21) (fun s7 => jm_ev (jm_z s7 22) (fun s8 => jm_ev (jm_z s8 23) (fun s9 => jm_ev (jm_z s9 24) (fun s10 => jm_ev (jm_si s10 15 10 0) (fun s11 => jm_ev (jm_sl s11 15 11 0) (fun s12 => jm_bd (s_Ne_clear_15_t46 s12) (fun s13 => (some s13))))))))))))))
set_option maxRecDepth 100000 in
set_option maxHeartbeats 4000000 in
theorem s_Ne_init_15_ok (s : jm_M) : jm_Sim mY_Ne_init 0 0 0 [(0, .ref 15)] [] 15 mr_28 s (s_Ne_init_15 s) (jm_rV 24 mr_46) := by
  unfold s_Ne_init_15
  refine jm_aload_n (pc := 0) (q := 0) (x := 15) d_Ne_init_0 rfl ?_
  refine jm_oinit (pc := 1) d_Ne_init_1 mlo_Ne_3 oi_im oi_cd (Nat.le_of_ble_eq_true rfl) (Nat.le_of_ble_eq_true rfl) ?_
  refine jm_aload_n (pc := 4) (q := 0) (x := 15) d_Ne_init_4 rfl ?_
  refine jm_iconst (pc := 5) (v := 0) d_Ne_init_5 ci_0 ?_
  refine jm_pi (pc := 6) (i := 15) d_Ne_init_6 fp_Ne_9 sh_15 ge_15 le_15_15 rfl rfl rfl (fun _ _ _ => rfl) (fun s1 => ?_)
  refine jm_aload_n (pc := 9) (q := 0) (x := 15) d_Ne_init_9 rfl ?_
  refine jm_bipush (pc := 10) (v := 10) d_Ne_init_10 cb_10 ?_
  refine jm_nai (pc := 12) (N := 10) d_Ne_init_12 ac_int (by decide) (by decide) (by decide) sh_16 (Nat.le_of_ble_eq_true rfl) (Nat.le_of_ble_eq_true rfl) (fun s2 => ?_)
  show jm_Sim _ 1 10 14 [(0, .ref 15)] [.ref 16, .ref 15] 16 mr_29 s2 _ _
  refine jm_pr (pc := 14) (i := 15) (q := 16) d_Ne_init_14 fp_Ne_15 (fun _ => rfl) sh_15 ge_15 le_15_16 ge_16 rfl (fun _ => rfl) (fun _ => rfl) (fun _ _ _ => rfl) ?_
  refine jm_aload_n (pc := 17) (q := 0) (x := 15) d_Ne_init_17 rfl ?_
  refine jm_bipush (pc := 18) (v := 10) d_Ne_init_18 cb_10 ?_
  refine jm_nai (pc := 20) (N := 10) d_Ne_init_20 ac_int (by decide) (by decide) (by decide) sh_17 (Nat.le_of_ble_eq_true rfl) (Nat.le_of_ble_eq_true rfl) (fun s3 => ?_)
  show jm_Sim _ 2 20 22 [(0, .ref 15)] [.ref 17, .ref 15] 17 mr_31 s3 _ _
  refine jm_pr (pc := 22) (i := 15) (q := 17) d_Ne_init_22 fp_Ne_19 (fun _ => rfl) sh_15 ge_15 le_15_17 ge_17 rfl (fun _ => rfl) (fun _ => rfl) (fun _ _ _ => rfl) ?_
  refine jm_aload_n (pc := 25) (q := 0) (x := 15) d_Ne_init_25 rfl ?_
  refine jm_bipush (pc := 26) (v := 10) d_Ne_init_26 cb_10 ?_
  refine jm_nai (pc := 28) (N := 10) d_Ne_init_28 ac_int (by decide) (by decide) (by decide) sh_18 (Nat.le_of_ble_eq_true rfl) (Nat.le_of_ble_eq_true rfl) (fun s4 => ?_)
  show jm_Sim _ 3 30 30 [(0, .ref 15)] [.ref 18, .ref 15] 18 mr_33 s4 _ _
  refine jm_pr (pc := 30) (i := 15) (q := 18) d_Ne_init_30 fp_Ne_22 (fun _ => rfl) sh_15 ge_15 le_15_18 ge_18 rfl (fun _ => rfl) (fun _ => rfl) (fun _ _ _ => rfl) ?_
  refine jm_aload_n (pc := 33) (q := 0) (x := 15) d_Ne_init_33 rfl ?_
  refine jm_bipush (pc := 34) (v := 10) d_Ne_init_34 cb_10 ?_
  refine jm_nai (pc := 36) (N := 10) d_Ne_init_36 ac_int (by decide) (by decide) (by decide) sh_19 (Nat.le_of_ble_eq_true rfl) (Nat.le_of_ble_eq_true rfl) (fun s5 => ?_)
  show jm_Sim _ 4 40 38 [(0, .ref 15)] [.ref 19, .ref 15] 19 mr_35 s5 _ _
  refine jm_pr (pc := 38) (i := 15) (q := 19) d_Ne_init_38 fp_Ne_25 (fun _ => rfl) sh_15 ge_15 le_15_19 ge_19 rfl (fun _ => rfl) (fun _ => rfl) (fun _ _ _ => rfl) ?_
  refine jm_aload_n (pc := 41) (q := 0) (x := 15) d_Ne_init_41 rfl ?_
  refine jm_bipush (pc := 42) (v := 10) d_Ne_init_42 cb_10 ?_
  refine jm_nai (pc := 44) (N := 10) d_Ne_init_44 ac_int (by decide) (by decide) (by decide) sh_20 (Nat.le_of_ble_eq_true rfl) (Nat.le_of_ble_eq_true rfl) (fun s6 => ?_)
  show jm_Sim _ 5 50 46 [(0, .ref 15)] [.ref 20, .ref 15] 20 mr_37 s6 _ _
  refine jm_pr (pc := 46) (i := 15) (q := 20) d_Ne_init_46 fp_Ne_28 (fun _ => rfl) sh_15 ge_15 le_15_20 ge_20 rfl (fun _ => rfl) (fun _ => rfl) (fun _ _ _ => rfl) ?_
  refine jm_aload_n (pc := 49) (q := 0) (x := 15) d_Ne_init_49 rfl ?_
  refine jm_bipush (pc := 50) (v := 10) d_Ne_init_50 cb_10 ?_
  refine jm_nai (pc := 52) (N := 10) d_Ne_init_52 ac_int (by decide) (by decide) (by decide) sh_21 (Nat.le_of_ble_eq_true rfl) (Nat.le_of_ble_eq_true rfl) (fun s7 => ?_)
  show jm_Sim _ 6 60 54 [(0, .ref 15)] [.ref 21, .ref 15] 21 mr_39 s7 _ _
  refine jm_pr (pc := 54) (i := 15) (q := 21) d_Ne_init_54 fp_Ne_31 (fun _ => rfl) sh_15 ge_15 le_15_21 ge_21 rfl (fun _ => rfl) (fun _ => rfl) (fun _ _ _ => rfl) ?_
  refine jm_aload_n (pc := 57) (q := 0) (x := 15) d_Ne_init_57 rfl ?_
  refine jm_bipush (pc := 58) (v := 10) d_Ne_init_58 cb_10 ?_
  refine jm_nal (pc := 60) (N := 10) d_Ne_init_60 ac_long (by decide) (by decide) (by decide) sh_22 (Nat.le_of_ble_eq_true rfl) (Nat.le_of_ble_eq_true rfl) (fun s8 => ?_)
  show jm_Sim _ 7 70 62 [(0, .ref 15)] [.ref 22, .ref 15] 22 mr_41 s8 _ _
  refine jm_pr (pc := 62) (i := 15) (q := 22) d_Ne_init_62 fp_Ne_34 (fun _ => rfl) sh_15 ge_15 le_15_22 ge_22 rfl (fun _ => rfl) (fun _ => rfl) (fun _ _ _ => rfl) ?_
  refine jm_aload_n (pc := 65) (q := 0) (x := 15) d_Ne_init_65 rfl ?_
  refine jm_bipush (pc := 66) (v := 10) d_Ne_init_66 cb_10 ?_
  refine jm_nal (pc := 68) (N := 10) d_Ne_init_68 ac_long (by decide) (by decide) (by decide) sh_23 (Nat.le_of_ble_eq_true rfl) (Nat.le_of_ble_eq_true rfl) (fun s9 => ?_)
  show jm_Sim _ 8 80 70 [(0, .ref 15)] [.ref 23, .ref 15] 23 mr_43 s9 _ _
  refine jm_pr (pc := 70) (i := 15) (q := 23) d_Ne_init_70 fp_Ne_38 (fun _ => rfl) sh_15 ge_15 le_15_23 ge_23 rfl (fun _ => rfl) (fun _ => rfl) (fun _ _ _ => rfl) ?_
  refine jm_aload_n (pc := 73) (q := 0) (x := 15) d_Ne_init_73 rfl ?_
  refine jm_bipush (pc := 74) (v := 100) d_Ne_init_74 cb_100 ?_
  refine jm_nal (pc := 76) (N := 100) d_Ne_init_76 ac_long (by decide) (by decide) (by decide) sh_24 (Nat.le_of_ble_eq_true rfl) (Nat.le_of_ble_eq_true rfl) (fun s10 => ?_)
  show jm_Sim _ 9 180 78 [(0, .ref 15)] [.ref 24, .ref 15] 24 mr_45 s10 _ _
  refine jm_pr (pc := 78) (i := 15) (q := 24) d_Ne_init_78 fp_Ne_41 (fun _ => rfl) sh_15 ge_15 le_15_24 ge_24 rfl (fun _ => rfl) (fun _ => rfl) (fun _ _ _ => rfl) ?_
  refine jm_aload_n (pc := 81) (q := 0) (x := 15) d_Ne_init_81 rfl ?_
  refine jm_iconst (pc := 82) (v := 0) d_Ne_init_82 ci_0 ?_
  refine jm_pi (pc := 83) (i := 15) d_Ne_init_83 fp_Ne_44 sh_15 ge_15 le_15_24 rfl rfl rfl (fun _ _ _ => rfl) (fun s11 => ?_)
  refine jm_aload_n (pc := 86) (q := 0) (x := 15) d_Ne_init_86 rfl ?_
  refine jm_lconst (pc := 87) (v := 0) d_Ne_init_87 cl_0 ?_
  refine jm_pl (pc := 88) (i := 15) d_Ne_init_88 fp_Ne_47 sh_15 ge_15 le_15_24 rfl (fun s12 => ?_)
  refine jm_aload_n (pc := 91) (q := 0) (x := 15) d_Ne_init_91 rfl ?_
  refine jm_Vv (pc := 92) (Y' := mY_Ne_clear) (i := 15) (avs := []) (rest := []) (s_Ne_clear_15_t46_ok s12) ok_Ne_clear l0_Ne_init__Ne_clear ml_Ne_51 im_Ne_clear se_Ne_clear d_Ne_init_92 rfl sh_15 rfl rfl ge_15 le_15_24 rfl (Nat.le_of_ble_eq_true rfl) (Nat.le_of_ble_eq_true rfl) (Nat.le_of_ble_eq_true rfl) (Nat.le_of_ble_eq_true rfl) (fun s13 => ?_)
  exact jm_vret (pc := 95) d_Ne_init_95 rfl rfl rfl rfl
def s_Ne_clear_25_t66_L88 : Nat → Int32 → jm_M → Option jm_M
  | 0, _, _ => none
  | n + 1, x1, s => (if 100 ≤ x1 then (some s) else jm_stl s 34 100 x1 0 (fun s4 => s_Ne_clear_25_t66_L88 n (x1 + 1) s4))
set_option maxRecDepth 100000 in
set_option maxHeartbeats 4000000 in
theorem s_Ne_clear_25_t66_L88_ok : ∀ (n : Nat) (x1 : Int32) (s : jm_M), jm_Sim mY_Ne_clear 0 0 88 [(0, .ref 25), (1, .int x1)] [] 34 mr_66 s (s_Ne_clear_25_t66_L88 n x1 s) (jm_rV 34 mr_66) := by
  intro n
  induction n with
  | zero => intro x1 s; exact jm_none
  | succ n ih =>
    intro x1 s
    rw [s_Ne_clear_25_t66_L88]
    refine jm_iload_n (pc := 88) (q := 1) (x := x1) d_Ne_clear_88 rfl ?_
    refine jm_bipush (pc := 89) (v := 100) d_Ne_clear_89 cb_100 ?_
    refine jm_icmp_ge (pc := 91) (tgt := 107) d_Ne_clear_91 (by decide) ?_ ?_
    · exact jm_vret (pc := 107) d_Ne_clear_107 rfl rfl rfl rfl
    · refine jm_aload_n (pc := 94) (q := 0) (x := 25) d_Ne_clear_94 rfl ?_
      refine jm_gr (pc := 95) (i := 25) d_Ne_clear_95 fo_Ne_41 sh_25 ge_25 le_25_34 rfl (fun _ => rfl) mr_66_25_9 ge_34 ?_
      refine jm_iload_n (pc := 98) (q := 1) (x := x1) d_Ne_clear_98 rfl ?_
      refine jm_lconst (pc := 99) (v := 0) d_Ne_clear_99 cl_0 ?_
      refine jm_last (pc := 100) d_Ne_clear_100 sh_34 ge_34 le_34_34 (fun s4 => ?_)
      refine jm_iinc (pc := 101) (q := 1) (x := x1) (v := 1) (L2 := [(1, .int (x1 + 1)), (0, .ref 25)]) d_Ne_clear_101 rfl ci_1 (Nat.le_of_ble_eq_true rfl) rfl ?_
      refine jm_goto (pc := 104) (tgt := 88) d_Ne_clear_104 (by decide) ?_
      refine jm_sub (L2 := [(0, .ref 25), (1, .int (x1 + 1))]) [1, 0] rfl ?_
      exact ih (x1 + 1) s4
def s_Ne_clear_25_t66_L17 : Nat → Int32 → jm_M → Option jm_M
  | 0, _, _ => none
  | n + 1, x1, s => (if 10 ≤ x1 then s_Ne_clear_25_t66_L88 5000 0 s else jm_sti s 26 10 x1 (-1) (fun s5 => jm_sti s5 27 10 x1 0 (fun s6 => jm_sti s6 28 10 x1 1 (fun s7 => jm_sti s7 29 10 x1 1 (fun s8 => jm_sti s8 30 10 x1 99 (fun s9 => jm_sti s9 31 10 x1 (-1) (fun s10 => jm_stl s10 32 10 x1 0 (fun s11 => jm_stl s11 33 10 x1 0 (fun s12 => s_Ne_clear_25_t66_L17 n (x1 + 1) s12)))))))))
set_option maxRecDepth 100000 in
set_option maxHeartbeats 4000000 in
theorem s_Ne_clear_25_t66_L17_ok : ∀ (n : Nat) (x1 : Int32) (s : jm_M), jm_Sim mY_Ne_clear 0 0 17 [(0, .ref 25), (1, .int x1)] [] 34 mr_66 s (s_Ne_clear_25_t66_L17 n x1 s) (jm_rV 34 mr_66) := by
  intro n
  induction n with
  | zero => intro x1 s; exact jm_none
  | succ n ih =>
    intro x1 s
    rw [s_Ne_clear_25_t66_L17]
    refine jm_iload_n (pc := 17) (q := 1) (x := x1) d_Ne_clear_17 rfl ?_
    refine jm_bipush (pc := 18) (v := 10) d_Ne_clear_18 cb_10 ?_
    refine jm_icmp_ge (pc := 20) (tgt := 86) d_Ne_clear_20 (by decide) ?_ ?_
    · refine jm_iconst (pc := 86) (v := 0) d_Ne_clear_86 ci_0 ?_
      refine jm_istore_n (pc := 87) (i := 1) (L2 := [(1, .int 0), (0, .ref 25)]) d_Ne_clear_87 rfl (Nat.le_of_ble_eq_true rfl) rfl ?_
      refine jm_sub (L2 := [(0, .ref 25), (1, .int 0)]) [1, 0] rfl ?_
      exact s_Ne_clear_25_t66_L88_ok 5000 0 s
    · refine jm_aload_n (pc := 23) (q := 0) (x := 25) d_Ne_clear_23 rfl ?_
      refine jm_gr (pc := 24) (i := 25) d_Ne_clear_24 fo_Ne_15 sh_25 ge_25 le_25_34 rfl (fun _ => rfl) mr_66_25_1 ge_26 ?_
      refine jm_iload_n (pc := 27) (q := 1) (x := x1) d_Ne_clear_27 rfl ?_
      refine jm_iconst (pc := 28) (v := (-1)) d_Ne_clear_28 ci_m1 ?_
      refine jm_iast (pc := 29) d_Ne_clear_29 sh_26 ge_26 le_26_34 (fun s5 => ?_)
      refine jm_aload_n (pc := 30) (q := 0) (x := 25) d_Ne_clear_30 rfl ?_
      refine jm_gr (pc := 31) (i := 25) d_Ne_clear_31 fo_Ne_19 sh_25 ge_25 le_25_34 rfl (fun _ => rfl) mr_66_25_2 ge_27 ?_
      refine jm_iload_n (pc := 34) (q := 1) (x := x1) d_Ne_clear_34 rfl ?_
      refine jm_iconst (pc := 35) (v := 0) d_Ne_clear_35 ci_0 ?_
      refine jm_iast (pc := 36) d_Ne_clear_36 sh_27 ge_27 le_27_34 (fun s6 => ?_)
      refine jm_aload_n (pc := 37) (q := 0) (x := 25) d_Ne_clear_37 rfl ?_
      refine jm_gr (pc := 38) (i := 25) d_Ne_clear_38 fo_Ne_22 sh_25 ge_25 le_25_34 rfl (fun _ => rfl) mr_66_25_3 ge_28 ?_
      refine jm_iload_n (pc := 41) (q := 1) (x := x1) d_Ne_clear_41 rfl ?_
      refine jm_iconst (pc := 42) (v := 1) d_Ne_clear_42 ci_1 ?_
      refine jm_iast (pc := 43) d_Ne_clear_43 sh_28 ge_28 le_28_34 (fun s7 => ?_)
      refine jm_aload_n (pc := 44) (q := 0) (x := 25) d_Ne_clear_44 rfl ?_
      refine jm_gr (pc := 45) (i := 25) d_Ne_clear_45 fo_Ne_25 sh_25 ge_25 le_25_34 rfl (fun _ => rfl) mr_66_25_4 ge_29 ?_
      refine jm_iload_n (pc := 48) (q := 1) (x := x1) d_Ne_clear_48 rfl ?_
      refine jm_iconst (pc := 49) (v := 1) d_Ne_clear_49 ci_1 ?_
      refine jm_iast (pc := 50) d_Ne_clear_50 sh_29 ge_29 le_29_34 (fun s8 => ?_)
      refine jm_aload_n (pc := 51) (q := 0) (x := 25) d_Ne_clear_51 rfl ?_
      refine jm_gr (pc := 52) (i := 25) d_Ne_clear_52 fo_Ne_28 sh_25 ge_25 le_25_34 rfl (fun _ => rfl) mr_66_25_5 ge_30 ?_
      refine jm_iload_n (pc := 55) (q := 1) (x := x1) d_Ne_clear_55 rfl ?_
      refine jm_bipush (pc := 56) (v := 99) d_Ne_clear_56 cb_99 ?_
      refine jm_iast (pc := 58) d_Ne_clear_58 sh_30 ge_30 le_30_34 (fun s9 => ?_)
      refine jm_aload_n (pc := 59) (q := 0) (x := 25) d_Ne_clear_59 rfl ?_
      refine jm_gr (pc := 60) (i := 25) d_Ne_clear_60 fo_Ne_31 sh_25 ge_25 le_25_34 rfl (fun _ => rfl) mr_66_25_6 ge_31 ?_
      refine jm_iload_n (pc := 63) (q := 1) (x := x1) d_Ne_clear_63 rfl ?_
      refine jm_iconst (pc := 64) (v := (-1)) d_Ne_clear_64 ci_m1 ?_
      refine jm_iast (pc := 65) d_Ne_clear_65 sh_31 ge_31 le_31_34 (fun s10 => ?_)
      refine jm_aload_n (pc := 66) (q := 0) (x := 25) d_Ne_clear_66 rfl ?_
      refine jm_gr (pc := 67) (i := 25) d_Ne_clear_67 fo_Ne_34 sh_25 ge_25 le_25_34 rfl (fun _ => rfl) mr_66_25_7 ge_32 ?_
      refine jm_iload_n (pc := 70) (q := 1) (x := x1) d_Ne_clear_70 rfl ?_
      refine jm_lconst (pc := 71) (v := 0) d_Ne_clear_71 cl_0 ?_
      refine jm_last (pc := 72) d_Ne_clear_72 sh_32 ge_32 le_32_34 (fun s11 => ?_)
      refine jm_aload_n (pc := 73) (q := 0) (x := 25) d_Ne_clear_73 rfl ?_
      refine jm_gr (pc := 74) (i := 25) d_Ne_clear_74 fo_Ne_38 sh_25 ge_25 le_25_34 rfl (fun _ => rfl) mr_66_25_8 ge_33 ?_
      refine jm_iload_n (pc := 77) (q := 1) (x := x1) d_Ne_clear_77 rfl ?_
      refine jm_lconst (pc := 78) (v := 0) d_Ne_clear_78 cl_0 ?_
      refine jm_last (pc := 79) d_Ne_clear_79 sh_33 ge_33 le_33_34 (fun s12 => ?_)
      refine jm_iinc (pc := 80) (q := 1) (x := x1) (v := 1) (L2 := [(1, .int (x1 + 1)), (0, .ref 25)]) d_Ne_clear_80 rfl ci_1 (Nat.le_of_ble_eq_true rfl) rfl ?_
      refine jm_goto (pc := 83) (tgt := 17) d_Ne_clear_83 (by decide) ?_
      refine jm_sub (L2 := [(0, .ref 25), (1, .int (x1 + 1))]) [1, 0] rfl ?_
      exact ih (x1 + 1) s12
def s_Ne_clear_25_t66 (s : jm_M) : Option jm_M := jm_ev (jm_si s 25 0 0) (fun s1 => jm_ev (jm_si s1 25 10 0) (fun s2 => jm_ev (jm_sl s2 25 11 0) (fun s3 => s_Ne_clear_25_t66_L17 5000 0 s3)))
set_option maxRecDepth 100000 in
set_option maxHeartbeats 4000000 in
theorem s_Ne_clear_25_t66_ok (s : jm_M) : jm_Sim mY_Ne_clear 0 0 0 [(0, .ref 25)] [] 34 mr_66 s (s_Ne_clear_25_t66 s) (jm_rV 34 mr_66) := by
  unfold s_Ne_clear_25_t66
  refine jm_aload_n (pc := 0) (q := 0) (x := 25) d_Ne_clear_0 rfl ?_
  refine jm_iconst (pc := 1) (v := 0) d_Ne_clear_1 ci_0 ?_
  refine jm_pi (pc := 2) (i := 25) d_Ne_clear_2 fp_Ne_9 sh_25 ge_25 le_25_34 rfl rfl rfl (fun _ _ _ => rfl) (fun s1 => ?_)
  refine jm_aload_n (pc := 5) (q := 0) (x := 25) d_Ne_clear_5 rfl ?_
  refine jm_iconst (pc := 6) (v := 0) d_Ne_clear_6 ci_0 ?_
  refine jm_pi (pc := 7) (i := 25) d_Ne_clear_7 fp_Ne_44 sh_25 ge_25 le_25_34 rfl rfl rfl (fun _ _ _ => rfl) (fun s2 => ?_)
  refine jm_aload_n (pc := 10) (q := 0) (x := 25) d_Ne_clear_10 rfl ?_
  refine jm_lconst (pc := 11) (v := 0) d_Ne_clear_11 cl_0 ?_
  refine jm_pl (pc := 12) (i := 25) d_Ne_clear_12 fp_Ne_47 sh_25 ge_25 le_25_34 rfl (fun s3 => ?_)
  refine jm_iconst (pc := 15) (v := 0) d_Ne_clear_15 ci_0 ?_
  refine jm_istore_n (pc := 16) (i := 1) (L2 := [(1, .int 0), (0, .ref 25)]) d_Ne_clear_16 rfl (Nat.le_of_ble_eq_true rfl) rfl ?_
  refine jm_sub (L2 := [(0, .ref 25), (1, .int 0)]) [1, 0] rfl ?_
  exact s_Ne_clear_25_t66_L17_ok 5000 0 s3
def s_Ne_init_25 (s : jm_M) : Option jm_M := jm_ev (jm_si s 25 0 0) (fun s1 => jm_ev (jm_z s1 26) (fun s2 => jm_ev (jm_z s2 27) (fun s3 => jm_ev (jm_z s3 28) (fun s4 => jm_ev (jm_z s4 29) (fun s5 => jm_ev (jm_z s5 30) (fun s6 => jm_ev (jm_z s6 31) (fun s7 => jm_ev (jm_z s7 32) (fun s8 => jm_ev (jm_z s8 33) (fun s9 => jm_ev (jm_z s9 34) (fun s10 => jm_ev (jm_si s10 25 10 0) (fun s11 => jm_ev (jm_sl s11 25 11 0) (fun s12 => jm_bd (s_Ne_clear_25_t66 s12) (fun s13 => (some s13))))))))))))))
set_option maxRecDepth 100000 in
set_option maxHeartbeats 4000000 in
theorem s_Ne_init_25_ok (s : jm_M) : jm_Sim mY_Ne_init 0 0 0 [(0, .ref 25)] [] 25 mr_48 s (s_Ne_init_25 s) (jm_rV 34 mr_66) := by
  unfold s_Ne_init_25
  refine jm_aload_n (pc := 0) (q := 0) (x := 25) d_Ne_init_0 rfl ?_
  refine jm_oinit (pc := 1) d_Ne_init_1 mlo_Ne_3 oi_im oi_cd (Nat.le_of_ble_eq_true rfl) (Nat.le_of_ble_eq_true rfl) ?_
  refine jm_aload_n (pc := 4) (q := 0) (x := 25) d_Ne_init_4 rfl ?_
  refine jm_iconst (pc := 5) (v := 0) d_Ne_init_5 ci_0 ?_
  refine jm_pi (pc := 6) (i := 25) d_Ne_init_6 fp_Ne_9 sh_25 ge_25 le_25_25 rfl rfl rfl (fun _ _ _ => rfl) (fun s1 => ?_)
  refine jm_aload_n (pc := 9) (q := 0) (x := 25) d_Ne_init_9 rfl ?_
  refine jm_bipush (pc := 10) (v := 10) d_Ne_init_10 cb_10 ?_
  refine jm_nai (pc := 12) (N := 10) d_Ne_init_12 ac_int (by decide) (by decide) (by decide) sh_26 (Nat.le_of_ble_eq_true rfl) (Nat.le_of_ble_eq_true rfl) (fun s2 => ?_)
  show jm_Sim _ 1 10 14 [(0, .ref 25)] [.ref 26, .ref 25] 26 mr_49 s2 _ _
  refine jm_pr (pc := 14) (i := 25) (q := 26) d_Ne_init_14 fp_Ne_15 (fun _ => rfl) sh_25 ge_25 le_25_26 ge_26 rfl (fun _ => rfl) (fun _ => rfl) (fun _ _ _ => rfl) ?_
  refine jm_aload_n (pc := 17) (q := 0) (x := 25) d_Ne_init_17 rfl ?_
  refine jm_bipush (pc := 18) (v := 10) d_Ne_init_18 cb_10 ?_
  refine jm_nai (pc := 20) (N := 10) d_Ne_init_20 ac_int (by decide) (by decide) (by decide) sh_27 (Nat.le_of_ble_eq_true rfl) (Nat.le_of_ble_eq_true rfl) (fun s3 => ?_)
  show jm_Sim _ 2 20 22 [(0, .ref 25)] [.ref 27, .ref 25] 27 mr_51 s3 _ _
  refine jm_pr (pc := 22) (i := 25) (q := 27) d_Ne_init_22 fp_Ne_19 (fun _ => rfl) sh_25 ge_25 le_25_27 ge_27 rfl (fun _ => rfl) (fun _ => rfl) (fun _ _ _ => rfl) ?_
  refine jm_aload_n (pc := 25) (q := 0) (x := 25) d_Ne_init_25 rfl ?_
  refine jm_bipush (pc := 26) (v := 10) d_Ne_init_26 cb_10 ?_
  refine jm_nai (pc := 28) (N := 10) d_Ne_init_28 ac_int (by decide) (by decide) (by decide) sh_28 (Nat.le_of_ble_eq_true rfl) (Nat.le_of_ble_eq_true rfl) (fun s4 => ?_)
  show jm_Sim _ 3 30 30 [(0, .ref 25)] [.ref 28, .ref 25] 28 mr_53 s4 _ _
  refine jm_pr (pc := 30) (i := 25) (q := 28) d_Ne_init_30 fp_Ne_22 (fun _ => rfl) sh_25 ge_25 le_25_28 ge_28 rfl (fun _ => rfl) (fun _ => rfl) (fun _ _ _ => rfl) ?_
  refine jm_aload_n (pc := 33) (q := 0) (x := 25) d_Ne_init_33 rfl ?_
  refine jm_bipush (pc := 34) (v := 10) d_Ne_init_34 cb_10 ?_
  refine jm_nai (pc := 36) (N := 10) d_Ne_init_36 ac_int (by decide) (by decide) (by decide) sh_29 (Nat.le_of_ble_eq_true rfl) (Nat.le_of_ble_eq_true rfl) (fun s5 => ?_)
  show jm_Sim _ 4 40 38 [(0, .ref 25)] [.ref 29, .ref 25] 29 mr_55 s5 _ _
  refine jm_pr (pc := 38) (i := 25) (q := 29) d_Ne_init_38 fp_Ne_25 (fun _ => rfl) sh_25 ge_25 le_25_29 ge_29 rfl (fun _ => rfl) (fun _ => rfl) (fun _ _ _ => rfl) ?_
  refine jm_aload_n (pc := 41) (q := 0) (x := 25) d_Ne_init_41 rfl ?_
  refine jm_bipush (pc := 42) (v := 10) d_Ne_init_42 cb_10 ?_
  refine jm_nai (pc := 44) (N := 10) d_Ne_init_44 ac_int (by decide) (by decide) (by decide) sh_30 (Nat.le_of_ble_eq_true rfl) (Nat.le_of_ble_eq_true rfl) (fun s6 => ?_)
  show jm_Sim _ 5 50 46 [(0, .ref 25)] [.ref 30, .ref 25] 30 mr_57 s6 _ _
  refine jm_pr (pc := 46) (i := 25) (q := 30) d_Ne_init_46 fp_Ne_28 (fun _ => rfl) sh_25 ge_25 le_25_30 ge_30 rfl (fun _ => rfl) (fun _ => rfl) (fun _ _ _ => rfl) ?_
  refine jm_aload_n (pc := 49) (q := 0) (x := 25) d_Ne_init_49 rfl ?_
  refine jm_bipush (pc := 50) (v := 10) d_Ne_init_50 cb_10 ?_
  refine jm_nai (pc := 52) (N := 10) d_Ne_init_52 ac_int (by decide) (by decide) (by decide) sh_31 (Nat.le_of_ble_eq_true rfl) (Nat.le_of_ble_eq_true rfl) (fun s7 => ?_)
  show jm_Sim _ 6 60 54 [(0, .ref 25)] [.ref 31, .ref 25] 31 mr_59 s7 _ _
  refine jm_pr (pc := 54) (i := 25) (q := 31) d_Ne_init_54 fp_Ne_31 (fun _ => rfl) sh_25 ge_25 le_25_31 ge_31 rfl (fun _ => rfl) (fun _ => rfl) (fun _ _ _ => rfl) ?_
  refine jm_aload_n (pc := 57) (q := 0) (x := 25) d_Ne_init_57 rfl ?_
  refine jm_bipush (pc := 58) (v := 10) d_Ne_init_58 cb_10 ?_
  refine jm_nal (pc := 60) (N := 10) d_Ne_init_60 ac_long (by decide) (by decide) (by decide) sh_32 (Nat.le_of_ble_eq_true rfl) (Nat.le_of_ble_eq_true rfl) (fun s8 => ?_)
  show jm_Sim _ 7 70 62 [(0, .ref 25)] [.ref 32, .ref 25] 32 mr_61 s8 _ _
  refine jm_pr (pc := 62) (i := 25) (q := 32) d_Ne_init_62 fp_Ne_34 (fun _ => rfl) sh_25 ge_25 le_25_32 ge_32 rfl (fun _ => rfl) (fun _ => rfl) (fun _ _ _ => rfl) ?_
  refine jm_aload_n (pc := 65) (q := 0) (x := 25) d_Ne_init_65 rfl ?_
  refine jm_bipush (pc := 66) (v := 10) d_Ne_init_66 cb_10 ?_
  refine jm_nal (pc := 68) (N := 10) d_Ne_init_68 ac_long (by decide) (by decide) (by decide) sh_33 (Nat.le_of_ble_eq_true rfl) (Nat.le_of_ble_eq_true rfl) (fun s9 => ?_)
  show jm_Sim _ 8 80 70 [(0, .ref 25)] [.ref 33, .ref 25] 33 mr_63 s9 _ _
  refine jm_pr (pc := 70) (i := 25) (q := 33) d_Ne_init_70 fp_Ne_38 (fun _ => rfl) sh_25 ge_25 le_25_33 ge_33 rfl (fun _ => rfl) (fun _ => rfl) (fun _ _ _ => rfl) ?_
  refine jm_aload_n (pc := 73) (q := 0) (x := 25) d_Ne_init_73 rfl ?_
  refine jm_bipush (pc := 74) (v := 100) d_Ne_init_74 cb_100 ?_
  refine jm_nal (pc := 76) (N := 100) d_Ne_init_76 ac_long (by decide) (by decide) (by decide) sh_34 (Nat.le_of_ble_eq_true rfl) (Nat.le_of_ble_eq_true rfl) (fun s10 => ?_)
  show jm_Sim _ 9 180 78 [(0, .ref 25)] [.ref 34, .ref 25] 34 mr_65 s10 _ _
  refine jm_pr (pc := 78) (i := 25) (q := 34) d_Ne_init_78 fp_Ne_41 (fun _ => rfl) sh_25 ge_25 le_25_34 ge_34 rfl (fun _ => rfl) (fun _ => rfl) (fun _ _ _ => rfl) ?_
  refine jm_aload_n (pc := 81) (q := 0) (x := 25) d_Ne_init_81 rfl ?_
  refine jm_iconst (pc := 82) (v := 0) d_Ne_init_82 ci_0 ?_
  refine jm_pi (pc := 83) (i := 25) d_Ne_init_83 fp_Ne_44 sh_25 ge_25 le_25_34 rfl rfl rfl (fun _ _ _ => rfl) (fun s11 => ?_)
  refine jm_aload_n (pc := 86) (q := 0) (x := 25) d_Ne_init_86 rfl ?_
  refine jm_lconst (pc := 87) (v := 0) d_Ne_init_87 cl_0 ?_
  refine jm_pl (pc := 88) (i := 25) d_Ne_init_88 fp_Ne_47 sh_25 ge_25 le_25_34 rfl (fun s12 => ?_)
  refine jm_aload_n (pc := 91) (q := 0) (x := 25) d_Ne_init_91 rfl ?_
  refine jm_Vv (pc := 92) (Y' := mY_Ne_clear) (i := 25) (avs := []) (rest := []) (s_Ne_clear_25_t66_ok s12) ok_Ne_clear l0_Ne_init__Ne_clear ml_Ne_51 im_Ne_clear se_Ne_clear d_Ne_init_92 rfl sh_25 rfl rfl ge_25 le_25_34 rfl (Nat.le_of_ble_eq_true rfl) (Nat.le_of_ble_eq_true rfl) (Nat.le_of_ble_eq_true rfl) (Nat.le_of_ble_eq_true rfl) (fun s13 => ?_)
  exact jm_vret (pc := 95) d_Ne_init_95 rfl rfl rfl rfl
def s_Ne_clear_35_t86_L88 : Nat → Int32 → jm_M → Option jm_M
  | 0, _, _ => none
  | n + 1, x1, s => (if 100 ≤ x1 then (some s) else jm_stl s 44 100 x1 0 (fun s4 => s_Ne_clear_35_t86_L88 n (x1 + 1) s4))
set_option maxRecDepth 100000 in
set_option maxHeartbeats 4000000 in
theorem s_Ne_clear_35_t86_L88_ok : ∀ (n : Nat) (x1 : Int32) (s : jm_M), jm_Sim mY_Ne_clear 0 0 88 [(0, .ref 35), (1, .int x1)] [] 44 mr_86 s (s_Ne_clear_35_t86_L88 n x1 s) (jm_rV 44 mr_86) := by
  intro n
  induction n with
  | zero => intro x1 s; exact jm_none
  | succ n ih =>
    intro x1 s
    rw [s_Ne_clear_35_t86_L88]
    refine jm_iload_n (pc := 88) (q := 1) (x := x1) d_Ne_clear_88 rfl ?_
    refine jm_bipush (pc := 89) (v := 100) d_Ne_clear_89 cb_100 ?_
    refine jm_icmp_ge (pc := 91) (tgt := 107) d_Ne_clear_91 (by decide) ?_ ?_
    · exact jm_vret (pc := 107) d_Ne_clear_107 rfl rfl rfl rfl
    · refine jm_aload_n (pc := 94) (q := 0) (x := 35) d_Ne_clear_94 rfl ?_
      refine jm_gr (pc := 95) (i := 35) d_Ne_clear_95 fo_Ne_41 sh_35 ge_35 le_35_44 rfl (fun _ => rfl) mr_86_35_9 ge_44 ?_
      refine jm_iload_n (pc := 98) (q := 1) (x := x1) d_Ne_clear_98 rfl ?_
      refine jm_lconst (pc := 99) (v := 0) d_Ne_clear_99 cl_0 ?_
      refine jm_last (pc := 100) d_Ne_clear_100 sh_44 ge_44 le_44_44 (fun s4 => ?_)
      refine jm_iinc (pc := 101) (q := 1) (x := x1) (v := 1) (L2 := [(1, .int (x1 + 1)), (0, .ref 35)]) d_Ne_clear_101 rfl ci_1 (Nat.le_of_ble_eq_true rfl) rfl ?_
      refine jm_goto (pc := 104) (tgt := 88) d_Ne_clear_104 (by decide) ?_
      refine jm_sub (L2 := [(0, .ref 35), (1, .int (x1 + 1))]) [1, 0] rfl ?_
      exact ih (x1 + 1) s4
def s_Ne_clear_35_t86_L17 : Nat → Int32 → jm_M → Option jm_M
  | 0, _, _ => none
  | n + 1, x1, s => (if 10 ≤ x1 then s_Ne_clear_35_t86_L88 5000 0 s else jm_sti s 36 10 x1 (-1) (fun s5 => jm_sti s5 37 10 x1 0 (fun s6 => jm_sti s6 38 10 x1 1 (fun s7 => jm_sti s7 39 10 x1 1 (fun s8 => jm_sti s8 40 10 x1 99 (fun s9 => jm_sti s9 41 10 x1 (-1) (fun s10 => jm_stl s10 42 10 x1 0 (fun s11 => jm_stl s11 43 10 x1 0 (fun s12 => s_Ne_clear_35_t86_L17 n (x1 + 1) s12)))))))))
set_option maxRecDepth 100000 in
set_option maxHeartbeats 4000000 in
theorem s_Ne_clear_35_t86_L17_ok : ∀ (n : Nat) (x1 : Int32) (s : jm_M), jm_Sim mY_Ne_clear 0 0 17 [(0, .ref 35), (1, .int x1)] [] 44 mr_86 s (s_Ne_clear_35_t86_L17 n x1 s) (jm_rV 44 mr_86) := by
  intro n
  induction n with
  | zero => intro x1 s; exact jm_none
  | succ n ih =>
    intro x1 s
    rw [s_Ne_clear_35_t86_L17]
    refine jm_iload_n (pc := 17) (q := 1) (x := x1) d_Ne_clear_17 rfl ?_
    refine jm_bipush (pc := 18) (v := 10) d_Ne_clear_18 cb_10 ?_
    refine jm_icmp_ge (pc := 20) (tgt := 86) d_Ne_clear_20 (by decide) ?_ ?_
    · refine jm_iconst (pc := 86) (v := 0) d_Ne_clear_86 ci_0 ?_
      refine jm_istore_n (pc := 87) (i := 1) (L2 := [(1, .int 0), (0, .ref 35)]) d_Ne_clear_87 rfl (Nat.le_of_ble_eq_true rfl) rfl ?_
      refine jm_sub (L2 := [(0, .ref 35), (1, .int 0)]) [1, 0] rfl ?_
      exact s_Ne_clear_35_t86_L88_ok 5000 0 s
    · refine jm_aload_n (pc := 23) (q := 0) (x := 35) d_Ne_clear_23 rfl ?_
      refine jm_gr (pc := 24) (i := 35) d_Ne_clear_24 fo_Ne_15 sh_35 ge_35 le_35_44 rfl (fun _ => rfl) mr_86_35_1 ge_36 ?_
      refine jm_iload_n (pc := 27) (q := 1) (x := x1) d_Ne_clear_27 rfl ?_
      refine jm_iconst (pc := 28) (v := (-1)) d_Ne_clear_28 ci_m1 ?_
      refine jm_iast (pc := 29) d_Ne_clear_29 sh_36 ge_36 le_36_44 (fun s5 => ?_)
      refine jm_aload_n (pc := 30) (q := 0) (x := 35) d_Ne_clear_30 rfl ?_
      refine jm_gr (pc := 31) (i := 35) d_Ne_clear_31 fo_Ne_19 sh_35 ge_35 le_35_44 rfl (fun _ => rfl) mr_86_35_2 ge_37 ?_
      refine jm_iload_n (pc := 34) (q := 1) (x := x1) d_Ne_clear_34 rfl ?_
      refine jm_iconst (pc := 35) (v := 0) d_Ne_clear_35 ci_0 ?_
      refine jm_iast (pc := 36) d_Ne_clear_36 sh_37 ge_37 le_37_44 (fun s6 => ?_)
      refine jm_aload_n (pc := 37) (q := 0) (x := 35) d_Ne_clear_37 rfl ?_
      refine jm_gr (pc := 38) (i := 35) d_Ne_clear_38 fo_Ne_22 sh_35 ge_35 le_35_44 rfl (fun _ => rfl) mr_86_35_3 ge_38 ?_
      refine jm_iload_n (pc := 41) (q := 1) (x := x1) d_Ne_clear_41 rfl ?_
      refine jm_iconst (pc := 42) (v := 1) d_Ne_clear_42 ci_1 ?_
      refine jm_iast (pc := 43) d_Ne_clear_43 sh_38 ge_38 le_38_44 (fun s7 => ?_)
      refine jm_aload_n (pc := 44) (q := 0) (x := 35) d_Ne_clear_44 rfl ?_
      refine jm_gr (pc := 45) (i := 35) d_Ne_clear_45 fo_Ne_25 sh_35 ge_35 le_35_44 rfl (fun _ => rfl) mr_86_35_4 ge_39 ?_
      refine jm_iload_n (pc := 48) (q := 1) (x := x1) d_Ne_clear_48 rfl ?_
      refine jm_iconst (pc := 49) (v := 1) d_Ne_clear_49 ci_1 ?_
      refine jm_iast (pc := 50) d_Ne_clear_50 sh_39 ge_39 le_39_44 (fun s8 => ?_)
      refine jm_aload_n (pc := 51) (q := 0) (x := 35) d_Ne_clear_51 rfl ?_
      refine jm_gr (pc := 52) (i := 35) d_Ne_clear_52 fo_Ne_28 sh_35 ge_35 le_35_44 rfl (fun _ => rfl) mr_86_35_5 ge_40 ?_
      refine jm_iload_n (pc := 55) (q := 1) (x := x1) d_Ne_clear_55 rfl ?_
      refine jm_bipush (pc := 56) (v := 99) d_Ne_clear_56 cb_99 ?_
      refine jm_iast (pc := 58) d_Ne_clear_58 sh_40 ge_40 le_40_44 (fun s9 => ?_)
      refine jm_aload_n (pc := 59) (q := 0) (x := 35) d_Ne_clear_59 rfl ?_
      refine jm_gr (pc := 60) (i := 35) d_Ne_clear_60 fo_Ne_31 sh_35 ge_35 le_35_44 rfl (fun _ => rfl) mr_86_35_6 ge_41 ?_
      refine jm_iload_n (pc := 63) (q := 1) (x := x1) d_Ne_clear_63 rfl ?_
      refine jm_iconst (pc := 64) (v := (-1)) d_Ne_clear_64 ci_m1 ?_
      refine jm_iast (pc := 65) d_Ne_clear_65 sh_41 ge_41 le_41_44 (fun s10 => ?_)
      refine jm_aload_n (pc := 66) (q := 0) (x := 35) d_Ne_clear_66 rfl ?_
      refine jm_gr (pc := 67) (i := 35) d_Ne_clear_67 fo_Ne_34 sh_35 ge_35 le_35_44 rfl (fun _ => rfl) mr_86_35_7 ge_42 ?_
      refine jm_iload_n (pc := 70) (q := 1) (x := x1) d_Ne_clear_70 rfl ?_
      refine jm_lconst (pc := 71) (v := 0) d_Ne_clear_71 cl_0 ?_
      refine jm_last (pc := 72) d_Ne_clear_72 sh_42 ge_42 le_42_44 (fun s11 => ?_)
      refine jm_aload_n (pc := 73) (q := 0) (x := 35) d_Ne_clear_73 rfl ?_
      refine jm_gr (pc := 74) (i := 35) d_Ne_clear_74 fo_Ne_38 sh_35 ge_35 le_35_44 rfl (fun _ => rfl) mr_86_35_8 ge_43 ?_
      refine jm_iload_n (pc := 77) (q := 1) (x := x1) d_Ne_clear_77 rfl ?_
      refine jm_lconst (pc := 78) (v := 0) d_Ne_clear_78 cl_0 ?_
      refine jm_last (pc := 79) d_Ne_clear_79 sh_43 ge_43 le_43_44 (fun s12 => ?_)
      refine jm_iinc (pc := 80) (q := 1) (x := x1) (v := 1) (L2 := [(1, .int (x1 + 1)), (0, .ref 35)]) d_Ne_clear_80 rfl ci_1 (Nat.le_of_ble_eq_true rfl) rfl ?_
      refine jm_goto (pc := 83) (tgt := 17) d_Ne_clear_83 (by decide) ?_
      refine jm_sub (L2 := [(0, .ref 35), (1, .int (x1 + 1))]) [1, 0] rfl ?_
      exact ih (x1 + 1) s12
def s_Ne_clear_35_t86 (s : jm_M) : Option jm_M := jm_ev (jm_si s 35 0 0) (fun s1 => jm_ev (jm_si s1 35 10 0) (fun s2 => jm_ev (jm_sl s2 35 11 0) (fun s3 => s_Ne_clear_35_t86_L17 5000 0 s3)))
set_option maxRecDepth 100000 in
set_option maxHeartbeats 4000000 in
theorem s_Ne_clear_35_t86_ok (s : jm_M) : jm_Sim mY_Ne_clear 0 0 0 [(0, .ref 35)] [] 44 mr_86 s (s_Ne_clear_35_t86 s) (jm_rV 44 mr_86) := by
  unfold s_Ne_clear_35_t86
  refine jm_aload_n (pc := 0) (q := 0) (x := 35) d_Ne_clear_0 rfl ?_
  refine jm_iconst (pc := 1) (v := 0) d_Ne_clear_1 ci_0 ?_
  refine jm_pi (pc := 2) (i := 35) d_Ne_clear_2 fp_Ne_9 sh_35 ge_35 le_35_44 rfl rfl rfl (fun _ _ _ => rfl) (fun s1 => ?_)
  refine jm_aload_n (pc := 5) (q := 0) (x := 35) d_Ne_clear_5 rfl ?_
  refine jm_iconst (pc := 6) (v := 0) d_Ne_clear_6 ci_0 ?_
  refine jm_pi (pc := 7) (i := 35) d_Ne_clear_7 fp_Ne_44 sh_35 ge_35 le_35_44 rfl rfl rfl (fun _ _ _ => rfl) (fun s2 => ?_)
  refine jm_aload_n (pc := 10) (q := 0) (x := 35) d_Ne_clear_10 rfl ?_
  refine jm_lconst (pc := 11) (v := 0) d_Ne_clear_11 cl_0 ?_
  refine jm_pl (pc := 12) (i := 35) d_Ne_clear_12 fp_Ne_47 sh_35 ge_35 le_35_44 rfl (fun s3 => ?_)
  refine jm_iconst (pc := 15) (v := 0) d_Ne_clear_15 ci_0 ?_
  refine jm_istore_n (pc := 16) (i := 1) (L2 := [(1, .int 0), (0, .ref 35)]) d_Ne_clear_16 rfl (Nat.le_of_ble_eq_true rfl) rfl ?_
  refine jm_sub (L2 := [(0, .ref 35), (1, .int 0)]) [1, 0] rfl ?_
  exact s_Ne_clear_35_t86_L17_ok 5000 0 s3
def s_Ne_init_35 (s : jm_M) : Option jm_M := jm_ev (jm_si s 35 0 0) (fun s1 => jm_ev (jm_z s1 36) (fun s2 => jm_ev (jm_z s2 37) (fun s3 => jm_ev (jm_z s3 38) (fun s4 => jm_ev (jm_z s4 39) (fun s5 => jm_ev (jm_z s5 40) (fun s6 => jm_ev (jm_z s6 41) (fun s7 => jm_ev (jm_z s7 42) (fun s8 => jm_ev (jm_z s8 43) (fun s9 => jm_ev (jm_z s9 44) (fun s10 => jm_ev (jm_si s10 35 10 0) (fun s11 => jm_ev (jm_sl s11 35 11 0) (fun s12 => jm_bd (s_Ne_clear_35_t86 s12) (fun s13 => (some s13))))))))))))))
set_option maxRecDepth 100000 in
set_option maxHeartbeats 4000000 in
theorem s_Ne_init_35_ok (s : jm_M) : jm_Sim mY_Ne_init 0 0 0 [(0, .ref 35)] [] 35 mr_68 s (s_Ne_init_35 s) (jm_rV 44 mr_86) := by
  unfold s_Ne_init_35
  refine jm_aload_n (pc := 0) (q := 0) (x := 35) d_Ne_init_0 rfl ?_
  refine jm_oinit (pc := 1) d_Ne_init_1 mlo_Ne_3 oi_im oi_cd (Nat.le_of_ble_eq_true rfl) (Nat.le_of_ble_eq_true rfl) ?_
  refine jm_aload_n (pc := 4) (q := 0) (x := 35) d_Ne_init_4 rfl ?_
  refine jm_iconst (pc := 5) (v := 0) d_Ne_init_5 ci_0 ?_
  refine jm_pi (pc := 6) (i := 35) d_Ne_init_6 fp_Ne_9 sh_35 ge_35 le_35_35 rfl rfl rfl (fun _ _ _ => rfl) (fun s1 => ?_)
  refine jm_aload_n (pc := 9) (q := 0) (x := 35) d_Ne_init_9 rfl ?_
  refine jm_bipush (pc := 10) (v := 10) d_Ne_init_10 cb_10 ?_
  refine jm_nai (pc := 12) (N := 10) d_Ne_init_12 ac_int (by decide) (by decide) (by decide) sh_36 (Nat.le_of_ble_eq_true rfl) (Nat.le_of_ble_eq_true rfl) (fun s2 => ?_)
  show jm_Sim _ 1 10 14 [(0, .ref 35)] [.ref 36, .ref 35] 36 mr_69 s2 _ _
  refine jm_pr (pc := 14) (i := 35) (q := 36) d_Ne_init_14 fp_Ne_15 (fun _ => rfl) sh_35 ge_35 le_35_36 ge_36 rfl (fun _ => rfl) (fun _ => rfl) (fun _ _ _ => rfl) ?_
  refine jm_aload_n (pc := 17) (q := 0) (x := 35) d_Ne_init_17 rfl ?_
  refine jm_bipush (pc := 18) (v := 10) d_Ne_init_18 cb_10 ?_
  refine jm_nai (pc := 20) (N := 10) d_Ne_init_20 ac_int (by decide) (by decide) (by decide) sh_37 (Nat.le_of_ble_eq_true rfl) (Nat.le_of_ble_eq_true rfl) (fun s3 => ?_)
  show jm_Sim _ 2 20 22 [(0, .ref 35)] [.ref 37, .ref 35] 37 mr_71 s3 _ _
  refine jm_pr (pc := 22) (i := 35) (q := 37) d_Ne_init_22 fp_Ne_19 (fun _ => rfl) sh_35 ge_35 le_35_37 ge_37 rfl (fun _ => rfl) (fun _ => rfl) (fun _ _ _ => rfl) ?_
  refine jm_aload_n (pc := 25) (q := 0) (x := 35) d_Ne_init_25 rfl ?_
  refine jm_bipush (pc := 26) (v := 10) d_Ne_init_26 cb_10 ?_
  refine jm_nai (pc := 28) (N := 10) d_Ne_init_28 ac_int (by decide) (by decide) (by decide) sh_38 (Nat.le_of_ble_eq_true rfl) (Nat.le_of_ble_eq_true rfl) (fun s4 => ?_)
  show jm_Sim _ 3 30 30 [(0, .ref 35)] [.ref 38, .ref 35] 38 mr_73 s4 _ _
  refine jm_pr (pc := 30) (i := 35) (q := 38) d_Ne_init_30 fp_Ne_22 (fun _ => rfl) sh_35 ge_35 le_35_38 ge_38 rfl (fun _ => rfl) (fun _ => rfl) (fun _ _ _ => rfl) ?_
  refine jm_aload_n (pc := 33) (q := 0) (x := 35) d_Ne_init_33 rfl ?_
  refine jm_bipush (pc := 34) (v := 10) d_Ne_init_34 cb_10 ?_
  refine jm_nai (pc := 36) (N := 10) d_Ne_init_36 ac_int (by decide) (by decide) (by decide) sh_39 (Nat.le_of_ble_eq_true rfl) (Nat.le_of_ble_eq_true rfl) (fun s5 => ?_)
  show jm_Sim _ 4 40 38 [(0, .ref 35)] [.ref 39, .ref 35] 39 mr_75 s5 _ _
  refine jm_pr (pc := 38) (i := 35) (q := 39) d_Ne_init_38 fp_Ne_25 (fun _ => rfl) sh_35 ge_35 le_35_39 ge_39 rfl (fun _ => rfl) (fun _ => rfl) (fun _ _ _ => rfl) ?_
  refine jm_aload_n (pc := 41) (q := 0) (x := 35) d_Ne_init_41 rfl ?_
  refine jm_bipush (pc := 42) (v := 10) d_Ne_init_42 cb_10 ?_
  refine jm_nai (pc := 44) (N := 10) d_Ne_init_44 ac_int (by decide) (by decide) (by decide) sh_40 (Nat.le_of_ble_eq_true rfl) (Nat.le_of_ble_eq_true rfl) (fun s6 => ?_)
  show jm_Sim _ 5 50 46 [(0, .ref 35)] [.ref 40, .ref 35] 40 mr_77 s6 _ _
  refine jm_pr (pc := 46) (i := 35) (q := 40) d_Ne_init_46 fp_Ne_28 (fun _ => rfl) sh_35 ge_35 le_35_40 ge_40 rfl (fun _ => rfl) (fun _ => rfl) (fun _ _ _ => rfl) ?_
  refine jm_aload_n (pc := 49) (q := 0) (x := 35) d_Ne_init_49 rfl ?_
  refine jm_bipush (pc := 50) (v := 10) d_Ne_init_50 cb_10 ?_
  refine jm_nai (pc := 52) (N := 10) d_Ne_init_52 ac_int (by decide) (by decide) (by decide) sh_41 (Nat.le_of_ble_eq_true rfl) (Nat.le_of_ble_eq_true rfl) (fun s7 => ?_)
  show jm_Sim _ 6 60 54 [(0, .ref 35)] [.ref 41, .ref 35] 41 mr_79 s7 _ _
  refine jm_pr (pc := 54) (i := 35) (q := 41) d_Ne_init_54 fp_Ne_31 (fun _ => rfl) sh_35 ge_35 le_35_41 ge_41 rfl (fun _ => rfl) (fun _ => rfl) (fun _ _ _ => rfl) ?_
  refine jm_aload_n (pc := 57) (q := 0) (x := 35) d_Ne_init_57 rfl ?_
  refine jm_bipush (pc := 58) (v := 10) d_Ne_init_58 cb_10 ?_
  refine jm_nal (pc := 60) (N := 10) d_Ne_init_60 ac_long (by decide) (by decide) (by decide) sh_42 (Nat.le_of_ble_eq_true rfl) (Nat.le_of_ble_eq_true rfl) (fun s8 => ?_)
  show jm_Sim _ 7 70 62 [(0, .ref 35)] [.ref 42, .ref 35] 42 mr_81 s8 _ _
  refine jm_pr (pc := 62) (i := 35) (q := 42) d_Ne_init_62 fp_Ne_34 (fun _ => rfl) sh_35 ge_35 le_35_42 ge_42 rfl (fun _ => rfl) (fun _ => rfl) (fun _ _ _ => rfl) ?_
  refine jm_aload_n (pc := 65) (q := 0) (x := 35) d_Ne_init_65 rfl ?_
  refine jm_bipush (pc := 66) (v := 10) d_Ne_init_66 cb_10 ?_
  refine jm_nal (pc := 68) (N := 10) d_Ne_init_68 ac_long (by decide) (by decide) (by decide) sh_43 (Nat.le_of_ble_eq_true rfl) (Nat.le_of_ble_eq_true rfl) (fun s9 => ?_)
  show jm_Sim _ 8 80 70 [(0, .ref 35)] [.ref 43, .ref 35] 43 mr_83 s9 _ _
  refine jm_pr (pc := 70) (i := 35) (q := 43) d_Ne_init_70 fp_Ne_38 (fun _ => rfl) sh_35 ge_35 le_35_43 ge_43 rfl (fun _ => rfl) (fun _ => rfl) (fun _ _ _ => rfl) ?_
  refine jm_aload_n (pc := 73) (q := 0) (x := 35) d_Ne_init_73 rfl ?_
  refine jm_bipush (pc := 74) (v := 100) d_Ne_init_74 cb_100 ?_
  refine jm_nal (pc := 76) (N := 100) d_Ne_init_76 ac_long (by decide) (by decide) (by decide) sh_44 (Nat.le_of_ble_eq_true rfl) (Nat.le_of_ble_eq_true rfl) (fun s10 => ?_)
  show jm_Sim _ 9 180 78 [(0, .ref 35)] [.ref 44, .ref 35] 44 mr_85 s10 _ _
  refine jm_pr (pc := 78) (i := 35) (q := 44) d_Ne_init_78 fp_Ne_41 (fun _ => rfl) sh_35 ge_35 le_35_44 ge_44 rfl (fun _ => rfl) (fun _ => rfl) (fun _ _ _ => rfl) ?_
  refine jm_aload_n (pc := 81) (q := 0) (x := 35) d_Ne_init_81 rfl ?_
  refine jm_iconst (pc := 82) (v := 0) d_Ne_init_82 ci_0 ?_
  refine jm_pi (pc := 83) (i := 35) d_Ne_init_83 fp_Ne_44 sh_35 ge_35 le_35_44 rfl rfl rfl (fun _ _ _ => rfl) (fun s11 => ?_)
  refine jm_aload_n (pc := 86) (q := 0) (x := 35) d_Ne_init_86 rfl ?_
  refine jm_lconst (pc := 87) (v := 0) d_Ne_init_87 cl_0 ?_
  refine jm_pl (pc := 88) (i := 35) d_Ne_init_88 fp_Ne_47 sh_35 ge_35 le_35_44 rfl (fun s12 => ?_)
  refine jm_aload_n (pc := 91) (q := 0) (x := 35) d_Ne_init_91 rfl ?_
  refine jm_Vv (pc := 92) (Y' := mY_Ne_clear) (i := 35) (avs := []) (rest := []) (s_Ne_clear_35_t86_ok s12) ok_Ne_clear l0_Ne_init__Ne_clear ml_Ne_51 im_Ne_clear se_Ne_clear d_Ne_init_92 rfl sh_35 rfl rfl ge_35 le_35_44 rfl (Nat.le_of_ble_eq_true rfl) (Nat.le_of_ble_eq_true rfl) (Nat.le_of_ble_eq_true rfl) (Nat.le_of_ble_eq_true rfl) (fun s13 => ?_)
  exact jm_vret (pc := 95) d_Ne_init_95 rfl rfl rfl rfl
theorem d_Ni_init_0 : decode (jm_cd mY_Ni_init) 0 = .ok (.aload_n 0, 1) := by decide +kernel
theorem d_Ni_init_1 : decode (jm_cd mY_Ni_init) 1 = .ok (.invokespecial 3, 3) := by decide +kernel
theorem d_Ni_init_4 : decode (jm_cd mY_Ni_init) 4 = .ok (.aload_n 0, 1) := by decide +kernel
theorem d_Ni_init_5 : decode (jm_cd mY_Ni_init) 5 = .ok (.bipush 10, 2) := by decide +kernel
theorem d_Ni_init_7 : decode (jm_cd mY_Ni_init) 7 = .ok (.newarray .int, 2) := by decide +kernel
theorem d_Ni_init_9 : decode (jm_cd mY_Ni_init) 9 = .ok (.putfield 9, 3) := by decide +kernel
theorem d_Ni_init_12 : decode (jm_cd mY_Ni_init) 12 = .ok (.aload_n 0, 1) := by decide +kernel
theorem d_Ni_init_13 : decode (jm_cd mY_Ni_init) 13 = .ok (.bipush (-4), 2) := by decide +kernel
theorem d_Ni_init_15 : decode (jm_cd mY_Ni_init) 15 = .ok (.putfield 15, 3) := by decide +kernel
theorem d_Ni_init_18 : decode (jm_cd mY_Ni_init) 18 = .ok (.aload_n 0, 1) := by decide +kernel
theorem d_Ni_init_19 : decode (jm_cd mY_Ni_init) 19 = .ok (.bipush 10, 2) := by decide +kernel
theorem d_Ni_init_21 : decode (jm_cd mY_Ni_init) 21 = .ok (.newarray .long, 2) := by decide +kernel
theorem d_Ni_init_23 : decode (jm_cd mY_Ni_init) 23 = .ok (.putfield 19, 3) := by decide +kernel
theorem d_Ni_init_26 : decode (jm_cd mY_Ni_init) 26 = .ok (.return_, 1) := by decide +kernel
def s_Ni_init (s : jm_M) : Option jm_M := jm_ev (jm_z s 46) (fun s1 => jm_ev (jm_si s1 45 1 (-4)) (fun s2 => jm_ev (jm_z s2 47) (fun s3 => (some s3))))
set_option maxRecDepth 100000 in
set_option maxHeartbeats 4000000 in
theorem s_Ni_init_ok (s : jm_M) : jm_Sim mY_Ni_init 0 0 0 [(0, .ref 45)] [] 45 mr_88 s (s_Ni_init s) (jm_rV 47 mr_92) := by
  unfold s_Ni_init
  refine jm_aload_n (pc := 0) (q := 0) (x := 45) d_Ni_init_0 rfl ?_
  refine jm_oinit (pc := 1) d_Ni_init_1 mlo_Ni_3 oi_im oi_cd (Nat.le_of_ble_eq_true rfl) (Nat.le_of_ble_eq_true rfl) ?_
  refine jm_aload_n (pc := 4) (q := 0) (x := 45) d_Ni_init_4 rfl ?_
  refine jm_bipush (pc := 5) (v := 10) d_Ni_init_5 cb_10 ?_
  refine jm_nai (pc := 7) (N := 10) d_Ni_init_7 ac_int (by decide) (by decide) (by decide) sh_46 (Nat.le_of_ble_eq_true rfl) (Nat.le_of_ble_eq_true rfl) (fun s1 => ?_)
  show jm_Sim _ 1 10 9 [(0, .ref 45)] [.ref 46, .ref 45] 46 mr_89 s1 _ _
  refine jm_pr (pc := 9) (i := 45) (q := 46) d_Ni_init_9 fp_Ni_9 (fun _ => rfl) sh_45 ge_45 le_45_46 ge_46 rfl (fun _ => rfl) (fun _ => rfl) (fun _ _ _ => rfl) ?_
  refine jm_aload_n (pc := 12) (q := 0) (x := 45) d_Ni_init_12 rfl ?_
  refine jm_bipush (pc := 13) (v := (-4)) d_Ni_init_13 cb_m4 ?_
  refine jm_pi (pc := 15) (i := 45) d_Ni_init_15 fp_Ni_15 sh_45 ge_45 le_45_46 rfl rfl rfl (fun _ _ _ => rfl) (fun s2 => ?_)
  refine jm_aload_n (pc := 18) (q := 0) (x := 45) d_Ni_init_18 rfl ?_
  refine jm_bipush (pc := 19) (v := 10) d_Ni_init_19 cb_10 ?_
  refine jm_nal (pc := 21) (N := 10) d_Ni_init_21 ac_long (by decide) (by decide) (by decide) sh_47 (Nat.le_of_ble_eq_true rfl) (Nat.le_of_ble_eq_true rfl) (fun s3 => ?_)
  show jm_Sim _ 2 20 23 [(0, .ref 45)] [.ref 47, .ref 45] 47 mr_91 s3 _ _
  refine jm_pr (pc := 23) (i := 45) (q := 47) d_Ni_init_23 fp_Ni_19 (fun _ => rfl) sh_45 ge_45 le_45_47 ge_47 rfl (fun _ => rfl) (fun _ => rfl) (fun _ _ _ => rfl) ?_
  exact jm_vret (pc := 26) d_Ni_init_26 rfl rfl rfl rfl
theorem d_Co_init_0 : decode (jm_cd mY_Co_init) 0 = .ok (.aload_n 0, 1) := by decide +kernel
theorem d_Co_init_1 : decode (jm_cd mY_Co_init) 1 = .ok (.invokespecial 3, 3) := by decide +kernel
theorem d_Co_init_4 : decode (jm_cd mY_Co_init) 4 = .ok (.aload_n 0, 1) := by decide +kernel
theorem d_Co_init_5 : decode (jm_cd mY_Co_init) 5 = .ok (.bipush (-4), 2) := by decide +kernel
theorem d_Co_init_7 : decode (jm_cd mY_Co_init) 7 = .ok (.putfield 9, 3) := by decide +kernel
theorem d_Co_init_10 : decode (jm_cd mY_Co_init) 10 = .ok (.aload_n 0, 1) := by decide +kernel
theorem d_Co_init_11 : decode (jm_cd mY_Co_init) 11 = .ok (.bipush (-4), 2) := by decide +kernel
theorem d_Co_init_13 : decode (jm_cd mY_Co_init) 13 = .ok (.putfield 15, 3) := by decide +kernel
theorem d_Co_init_16 : decode (jm_cd mY_Co_init) 16 = .ok (.aload_n 0, 1) := by decide +kernel
theorem d_Co_init_17 : decode (jm_cd mY_Co_init) 17 = .ok (.iconst (-1), 1) := by decide +kernel
theorem d_Co_init_18 : decode (jm_cd mY_Co_init) 18 = .ok (.putfield 18, 3) := by decide +kernel
theorem d_Co_init_21 : decode (jm_cd mY_Co_init) 21 = .ok (.aload_n 0, 1) := by decide +kernel
theorem d_Co_init_22 : decode (jm_cd mY_Co_init) 22 = .ok (.iconst 0, 1) := by decide +kernel
theorem d_Co_init_23 : decode (jm_cd mY_Co_init) 23 = .ok (.putfield 21, 3) := by decide +kernel
theorem d_Co_init_26 : decode (jm_cd mY_Co_init) 26 = .ok (.aload_n 0, 1) := by decide +kernel
theorem d_Co_init_27 : decode (jm_cd mY_Co_init) 27 = .ok (.iconst 0, 1) := by decide +kernel
theorem d_Co_init_28 : decode (jm_cd mY_Co_init) 28 = .ok (.putfield 24, 3) := by decide +kernel
theorem d_Co_init_31 : decode (jm_cd mY_Co_init) 31 = .ok (.aload_n 0, 1) := by decide +kernel
theorem d_Co_init_32 : decode (jm_cd mY_Co_init) 32 = .ok (.bipush 10, 2) := by decide +kernel
theorem d_Co_init_34 : decode (jm_cd mY_Co_init) 34 = .ok (.newarray .int, 2) := by decide +kernel
theorem d_Co_init_36 : decode (jm_cd mY_Co_init) 36 = .ok (.putfield 27, 3) := by decide +kernel
theorem d_Co_init_39 : decode (jm_cd mY_Co_init) 39 = .ok (.aload_n 0, 1) := by decide +kernel
theorem d_Co_init_40 : decode (jm_cd mY_Co_init) 40 = .ok (.bipush 10, 2) := by decide +kernel
theorem d_Co_init_42 : decode (jm_cd mY_Co_init) 42 = .ok (.newarray .int, 2) := by decide +kernel
theorem d_Co_init_44 : decode (jm_cd mY_Co_init) 44 = .ok (.putfield 31, 3) := by decide +kernel
theorem d_Co_init_47 : decode (jm_cd mY_Co_init) 47 = .ok (.aload_n 0, 1) := by decide +kernel
theorem d_Co_init_48 : decode (jm_cd mY_Co_init) 48 = .ok (.bipush 10, 2) := by decide +kernel
theorem d_Co_init_50 : decode (jm_cd mY_Co_init) 50 = .ok (.newarray .int, 2) := by decide +kernel
theorem d_Co_init_52 : decode (jm_cd mY_Co_init) 52 = .ok (.putfield 34, 3) := by decide +kernel
theorem d_Co_init_55 : decode (jm_cd mY_Co_init) 55 = .ok (.aload_n 0, 1) := by decide +kernel
theorem d_Co_init_56 : decode (jm_cd mY_Co_init) 56 = .ok (.bipush 100, 2) := by decide +kernel
theorem d_Co_init_58 : decode (jm_cd mY_Co_init) 58 = .ok (.newarray .int, 2) := by decide +kernel
theorem d_Co_init_60 : decode (jm_cd mY_Co_init) 60 = .ok (.putfield 37, 3) := by decide +kernel
theorem d_Co_init_63 : decode (jm_cd mY_Co_init) 63 = .ok (.aload_n 0, 1) := by decide +kernel
theorem d_Co_init_64 : decode (jm_cd mY_Co_init) 64 = .ok (.iconst 0, 1) := by decide +kernel
theorem d_Co_init_65 : decode (jm_cd mY_Co_init) 65 = .ok (.putfield 40, 3) := by decide +kernel
theorem d_Co_init_68 : decode (jm_cd mY_Co_init) 68 = .ok (.return_, 1) := by decide +kernel
def s_Co_init (s : jm_M) : Option jm_M := jm_ev (jm_si s 48 0 (-4)) (fun s1 => jm_ev (jm_si s1 48 1 (-4)) (fun s2 => jm_ev (jm_si s2 48 2 (-1)) (fun s3 => jm_ev (jm_si s3 48 3 0) (fun s4 => jm_ev (jm_si s4 48 4 0) (fun s5 => jm_ev (jm_z s5 49) (fun s6 => jm_ev (jm_z s6 50) (fun s7 => jm_ev (jm_z s7 51) (fun s8 => jm_ev (jm_z s8 52) (fun s9 => jm_ev (jm_si s9 48 9 0) (fun s10 => (some s10)))))))))))
set_option maxRecDepth 100000 in
set_option maxHeartbeats 4000000 in
theorem s_Co_init_ok (s : jm_M) : jm_Sim mY_Co_init 0 0 0 [(0, .ref 48)] [] 48 mr_94 s (s_Co_init s) (jm_rV 52 mr_102) := by
  unfold s_Co_init
  refine jm_aload_n (pc := 0) (q := 0) (x := 48) d_Co_init_0 rfl ?_
  refine jm_oinit (pc := 1) d_Co_init_1 mlo_Co_3 oi_im oi_cd (Nat.le_of_ble_eq_true rfl) (Nat.le_of_ble_eq_true rfl) ?_
  refine jm_aload_n (pc := 4) (q := 0) (x := 48) d_Co_init_4 rfl ?_
  refine jm_bipush (pc := 5) (v := (-4)) d_Co_init_5 cb_m4 ?_
  refine jm_pi (pc := 7) (i := 48) d_Co_init_7 fp_Co_9 sh_48 ge_48 le_48_48 rfl rfl rfl (fun _ _ _ => rfl) (fun s1 => ?_)
  refine jm_aload_n (pc := 10) (q := 0) (x := 48) d_Co_init_10 rfl ?_
  refine jm_bipush (pc := 11) (v := (-4)) d_Co_init_11 cb_m4 ?_
  refine jm_pi (pc := 13) (i := 48) d_Co_init_13 fp_Co_15 sh_48 ge_48 le_48_48 rfl rfl rfl (fun _ _ _ => rfl) (fun s2 => ?_)
  refine jm_aload_n (pc := 16) (q := 0) (x := 48) d_Co_init_16 rfl ?_
  refine jm_iconst (pc := 17) (v := (-1)) d_Co_init_17 ci_m1 ?_
  refine jm_pi (pc := 18) (i := 48) d_Co_init_18 fp_Co_18 sh_48 ge_48 le_48_48 rfl rfl rfl (fun _ _ _ => rfl) (fun s3 => ?_)
  refine jm_aload_n (pc := 21) (q := 0) (x := 48) d_Co_init_21 rfl ?_
  refine jm_iconst (pc := 22) (v := 0) d_Co_init_22 ci_0 ?_
  refine jm_pi (pc := 23) (i := 48) d_Co_init_23 fp_Co_21 sh_48 ge_48 le_48_48 rfl rfl rfl (fun _ _ _ => rfl) (fun s4 => ?_)
  refine jm_aload_n (pc := 26) (q := 0) (x := 48) d_Co_init_26 rfl ?_
  refine jm_iconst (pc := 27) (v := 0) d_Co_init_27 ci_0 ?_
  refine jm_pi (pc := 28) (i := 48) d_Co_init_28 fp_Co_24 sh_48 ge_48 le_48_48 rfl rfl rfl (fun _ _ _ => rfl) (fun s5 => ?_)
  refine jm_aload_n (pc := 31) (q := 0) (x := 48) d_Co_init_31 rfl ?_
  refine jm_bipush (pc := 32) (v := 10) d_Co_init_32 cb_10 ?_
  refine jm_nai (pc := 34) (N := 10) d_Co_init_34 ac_int (by decide) (by decide) (by decide) sh_49 (Nat.le_of_ble_eq_true rfl) (Nat.le_of_ble_eq_true rfl) (fun s6 => ?_)
  show jm_Sim _ 1 10 36 [(0, .ref 48)] [.ref 49, .ref 48] 49 mr_95 s6 _ _
  refine jm_pr (pc := 36) (i := 48) (q := 49) d_Co_init_36 fp_Co_27 (fun _ => rfl) sh_48 ge_48 le_48_49 ge_49 rfl (fun _ => rfl) (fun _ => rfl) (fun _ _ _ => rfl) ?_
  refine jm_aload_n (pc := 39) (q := 0) (x := 48) d_Co_init_39 rfl ?_
  refine jm_bipush (pc := 40) (v := 10) d_Co_init_40 cb_10 ?_
  refine jm_nai (pc := 42) (N := 10) d_Co_init_42 ac_int (by decide) (by decide) (by decide) sh_50 (Nat.le_of_ble_eq_true rfl) (Nat.le_of_ble_eq_true rfl) (fun s7 => ?_)
  show jm_Sim _ 2 20 44 [(0, .ref 48)] [.ref 50, .ref 48] 50 mr_97 s7 _ _
  refine jm_pr (pc := 44) (i := 48) (q := 50) d_Co_init_44 fp_Co_31 (fun _ => rfl) sh_48 ge_48 le_48_50 ge_50 rfl (fun _ => rfl) (fun _ => rfl) (fun _ _ _ => rfl) ?_
  refine jm_aload_n (pc := 47) (q := 0) (x := 48) d_Co_init_47 rfl ?_
  refine jm_bipush (pc := 48) (v := 10) d_Co_init_48 cb_10 ?_
  refine jm_nai (pc := 50) (N := 10) d_Co_init_50 ac_int (by decide) (by decide) (by decide) sh_51 (Nat.le_of_ble_eq_true rfl) (Nat.le_of_ble_eq_true rfl) (fun s8 => ?_)
  show jm_Sim _ 3 30 52 [(0, .ref 48)] [.ref 51, .ref 48] 51 mr_99 s8 _ _
  refine jm_pr (pc := 52) (i := 48) (q := 51) d_Co_init_52 fp_Co_34 (fun _ => rfl) sh_48 ge_48 le_48_51 ge_51 rfl (fun _ => rfl) (fun _ => rfl) (fun _ _ _ => rfl) ?_
  refine jm_aload_n (pc := 55) (q := 0) (x := 48) d_Co_init_55 rfl ?_
  refine jm_bipush (pc := 56) (v := 100) d_Co_init_56 cb_100 ?_
  refine jm_nai (pc := 58) (N := 100) d_Co_init_58 ac_int (by decide) (by decide) (by decide) sh_52 (Nat.le_of_ble_eq_true rfl) (Nat.le_of_ble_eq_true rfl) (fun s9 => ?_)
  show jm_Sim _ 4 130 60 [(0, .ref 48)] [.ref 52, .ref 48] 52 mr_101 s9 _ _
  refine jm_pr (pc := 60) (i := 48) (q := 52) d_Co_init_60 fp_Co_37 (fun _ => rfl) sh_48 ge_48 le_48_52 ge_52 rfl (fun _ => rfl) (fun _ => rfl) (fun _ _ _ => rfl) ?_
  refine jm_aload_n (pc := 63) (q := 0) (x := 48) d_Co_init_63 rfl ?_
  refine jm_iconst (pc := 64) (v := 0) d_Co_init_64 ci_0 ?_
  refine jm_pi (pc := 65) (i := 48) d_Co_init_65 fp_Co_40 sh_48 ge_48 le_48_52 rfl rfl rfl (fun _ _ _ => rfl) (fun s10 => ?_)
  exact jm_vret (pc := 68) d_Co_init_68 rfl rfl rfl rfl
theorem d_Si_init_0 : decode (jm_cd mY_Si_init) 0 = .ok (.aload_n 0, 1) := by decide +kernel
theorem d_Si_init_1 : decode (jm_cd mY_Si_init) 1 = .ok (.invokespecial 3, 3) := by decide +kernel
theorem d_Si_init_4 : decode (jm_cd mY_Si_init) 4 = .ok (.aload_n 0, 1) := by decide +kernel
theorem d_Si_init_5 : decode (jm_cd mY_Si_init) 5 = .ok (.bipush 72, 2) := by decide +kernel
theorem d_Si_init_7 : decode (jm_cd mY_Si_init) 7 = .ok (.newarray .int, 2) := by decide +kernel
theorem d_Si_init_9 : decode (jm_cd mY_Si_init) 9 = .ok (.putfield 9, 3) := by decide +kernel
theorem d_Si_init_12 : decode (jm_cd mY_Si_init) 12 = .ok (.return_, 1) := by decide +kernel
def s_Si_init (s : jm_M) : Option jm_M := jm_ev (jm_z s 54) (fun s1 => (some s1))
set_option maxRecDepth 100000 in
set_option maxHeartbeats 4000000 in
theorem s_Si_init_ok (s : jm_M) : jm_Sim mY_Si_init 0 0 0 [(0, .ref 53)] [] 53 mr_104 s (s_Si_init s) (jm_rV 54 mr_106) := by
  unfold s_Si_init
  refine jm_aload_n (pc := 0) (q := 0) (x := 53) d_Si_init_0 rfl ?_
  refine jm_oinit (pc := 1) d_Si_init_1 mlo_Si_3 oi_im oi_cd (Nat.le_of_ble_eq_true rfl) (Nat.le_of_ble_eq_true rfl) ?_
  refine jm_aload_n (pc := 4) (q := 0) (x := 53) d_Si_init_4 rfl ?_
  refine jm_bipush (pc := 5) (v := 72) d_Si_init_5 cb_72 ?_
  refine jm_nai (pc := 7) (N := 72) d_Si_init_7 ac_int (by decide) (by decide) (by decide) sh_54 (Nat.le_of_ble_eq_true rfl) (Nat.le_of_ble_eq_true rfl) (fun s1 => ?_)
  show jm_Sim _ 1 72 9 [(0, .ref 53)] [.ref 54, .ref 53] 54 mr_105 s1 _ _
  refine jm_pr (pc := 9) (i := 53) (q := 54) d_Si_init_9 fp_Si_9 (fun _ => rfl) sh_53 ge_53 le_53_54 ge_54 rfl (fun _ => rfl) (fun _ => rfl) (fun _ _ _ => rfl) ?_
  exact jm_vret (pc := 12) d_Si_init_12 rfl rfl rfl rfl
theorem d_Wa_init_0 : decode (jm_cd mY_Wa_init) 0 = .ok (.aload_n 0, 1) := by decide +kernel
theorem d_Wa_init_1 : decode (jm_cd mY_Wa_init) 1 = .ok (.invokespecial 3, 3) := by decide +kernel
theorem d_Wa_init_4 : decode (jm_cd mY_Wa_init) 4 = .ok (.aload_n 0, 1) := by decide +kernel
theorem d_Wa_init_5 : decode (jm_cd mY_Wa_init) 5 = .ok (.iconst 4, 1) := by decide +kernel
theorem d_Wa_init_6 : decode (jm_cd mY_Wa_init) 6 = .ok (.newarray .int, 2) := by decide +kernel
theorem d_Wa_init_8 : decode (jm_cd mY_Wa_init) 8 = .ok (.putfield 9, 3) := by decide +kernel
theorem d_Wa_init_11 : decode (jm_cd mY_Wa_init) 11 = .ok (.return_, 1) := by decide +kernel
def s_Wa_init (s : jm_M) : Option jm_M := jm_ev (jm_z s 56) (fun s1 => (some s1))
set_option maxRecDepth 100000 in
set_option maxHeartbeats 4000000 in
theorem s_Wa_init_ok (s : jm_M) : jm_Sim mY_Wa_init 0 0 0 [(0, .ref 55)] [] 55 mr_108 s (s_Wa_init s) (jm_rV 56 mr_110) := by
  unfold s_Wa_init
  refine jm_aload_n (pc := 0) (q := 0) (x := 55) d_Wa_init_0 rfl ?_
  refine jm_oinit (pc := 1) d_Wa_init_1 mlo_Wa_3 oi_im oi_cd (Nat.le_of_ble_eq_true rfl) (Nat.le_of_ble_eq_true rfl) ?_
  refine jm_aload_n (pc := 4) (q := 0) (x := 55) d_Wa_init_4 rfl ?_
  refine jm_iconst (pc := 5) (v := 4) d_Wa_init_5 ci_4 ?_
  refine jm_nai (pc := 6) (N := 4) d_Wa_init_6 ac_int (by decide) (by decide) (by decide) sh_56 (Nat.le_of_ble_eq_true rfl) (Nat.le_of_ble_eq_true rfl) (fun s1 => ?_)
  show jm_Sim _ 1 4 8 [(0, .ref 55)] [.ref 56, .ref 55] 56 mr_109 s1 _ _
  refine jm_pr (pc := 8) (i := 55) (q := 56) d_Wa_init_8 fp_Wa_9 (fun _ => rfl) sh_55 ge_55 le_55_56 ge_56 rfl (fun _ => rfl) (fun _ => rfl) (fun _ _ _ => rfl) ?_
  exact jm_vret (pc := 11) d_Wa_init_11 rfl rfl rfl rfl
theorem d_Ki_init_0 : decode (jm_cd mY_Ki_init) 0 = .ok (.aload_n 0, 1) := by decide +kernel
theorem d_Ki_init_1 : decode (jm_cd mY_Ki_init) 1 = .ok (.invokespecial 3, 3) := by decide +kernel
theorem d_Ki_init_4 : decode (jm_cd mY_Ki_init) 4 = .ok (.aload_n 0, 1) := by decide +kernel
theorem d_Ki_init_5 : decode (jm_cd mY_Ki_init) 5 = .ok (.iconst 3, 1) := by decide +kernel
theorem d_Ki_init_6 : decode (jm_cd mY_Ki_init) 6 = .ok (.newarray .int, 2) := by decide +kernel
theorem d_Ki_init_8 : decode (jm_cd mY_Ki_init) 8 = .ok (.dup, 1) := by decide +kernel
theorem d_Ki_init_9 : decode (jm_cd mY_Ki_init) 9 = .ok (.iconst 0, 1) := by decide +kernel
theorem d_Ki_init_10 : decode (jm_cd mY_Ki_init) 10 = .ok (.bipush 100, 2) := by decide +kernel
theorem d_Ki_init_12 : decode (jm_cd mY_Ki_init) 12 = .ok (.iastore, 1) := by decide +kernel
theorem d_Ki_init_13 : decode (jm_cd mY_Ki_init) 13 = .ok (.dup, 1) := by decide +kernel
theorem d_Ki_init_14 : decode (jm_cd mY_Ki_init) 14 = .ok (.iconst 1, 1) := by decide +kernel
theorem d_Ki_init_15 : decode (jm_cd mY_Ki_init) 15 = .ok (.sipush 1000, 3) := by decide +kernel
theorem d_Ki_init_18 : decode (jm_cd mY_Ki_init) 18 = .ok (.iastore, 1) := by decide +kernel
theorem d_Ki_init_19 : decode (jm_cd mY_Ki_init) 19 = .ok (.dup, 1) := by decide +kernel
theorem d_Ki_init_20 : decode (jm_cd mY_Ki_init) 20 = .ok (.iconst 2, 1) := by decide +kernel
theorem d_Ki_init_21 : decode (jm_cd mY_Ki_init) 21 = .ok (.bipush 100, 2) := by decide +kernel
theorem d_Ki_init_23 : decode (jm_cd mY_Ki_init) 23 = .ok (.iastore, 1) := by decide +kernel
theorem d_Ki_init_24 : decode (jm_cd mY_Ki_init) 24 = .ok (.putfield 9, 3) := by decide +kernel
theorem d_Ki_init_27 : decode (jm_cd mY_Ki_init) 27 = .ok (.return_, 1) := by decide +kernel
def s_Ki_init (s : jm_M) : Option jm_M := jm_ev (jm_z s 58) (fun s1 => jm_sti s1 58 3 0 100 (fun s2 => jm_sti s2 58 3 1 1000 (fun s3 => jm_sti s3 58 3 2 100 (fun s4 => (some s4)))))
set_option maxRecDepth 100000 in
set_option maxHeartbeats 4000000 in
theorem s_Ki_init_ok (s : jm_M) : jm_Sim mY_Ki_init 0 0 0 [(0, .ref 57)] [] 57 mr_112 s (s_Ki_init s) (jm_rV 58 mr_114) := by
  unfold s_Ki_init
  refine jm_aload_n (pc := 0) (q := 0) (x := 57) d_Ki_init_0 rfl ?_
  refine jm_oinit (pc := 1) d_Ki_init_1 mlo_Ki_3 oi_im oi_cd (Nat.le_of_ble_eq_true rfl) (Nat.le_of_ble_eq_true rfl) ?_
  refine jm_aload_n (pc := 4) (q := 0) (x := 57) d_Ki_init_4 rfl ?_
  refine jm_iconst (pc := 5) (v := 3) d_Ki_init_5 ci_3 ?_
  refine jm_nai (pc := 6) (N := 3) d_Ki_init_6 ac_int (by decide) (by decide) (by decide) sh_58 (Nat.le_of_ble_eq_true rfl) (Nat.le_of_ble_eq_true rfl) (fun s1 => ?_)
  show jm_Sim _ 1 3 8 [(0, .ref 57)] [.ref 58, .ref 57] 58 mr_113 s1 _ _
  refine jm_dup (pc := 8) d_Ki_init_8 rfl ?_
  refine jm_iconst (pc := 9) (v := 0) d_Ki_init_9 ci_0 ?_
  refine jm_bipush (pc := 10) (v := 100) d_Ki_init_10 cb_100 ?_
  refine jm_iast (pc := 12) d_Ki_init_12 sh_58 ge_58 le_58_58 (fun s2 => ?_)
  refine jm_dup (pc := 13) d_Ki_init_13 rfl ?_
  refine jm_iconst (pc := 14) (v := 1) d_Ki_init_14 ci_1 ?_
  refine jm_sipush (pc := 15) (v := 1000) d_Ki_init_15 cs_1000 ?_
  refine jm_iast (pc := 18) d_Ki_init_18 sh_58 ge_58 le_58_58 (fun s3 => ?_)
  refine jm_dup (pc := 19) d_Ki_init_19 rfl ?_
  refine jm_iconst (pc := 20) (v := 2) d_Ki_init_20 ci_2 ?_
  refine jm_bipush (pc := 21) (v := 100) d_Ki_init_21 cb_100 ?_
  refine jm_iast (pc := 23) d_Ki_init_23 sh_58 ge_58 le_58_58 (fun s4 => ?_)
  refine jm_pr (pc := 24) (i := 57) (q := 58) d_Ki_init_24 fp_Ki_9 (fun _ => rfl) sh_57 ge_57 le_57_58 ge_58 rfl (fun _ => rfl) (fun _ => rfl) (fun _ _ _ => rfl) ?_
  exact jm_vret (pc := 27) d_Ki_init_27 rfl rfl rfl rfl
theorem d_X_init_0 : decode (jm_cd mY_X_init) 0 = .ok (.aload_n 0, 1) := by decide +kernel
theorem d_X_init_1 : decode (jm_cd mY_X_init) 1 = .ok (.invokespecial 3, 3) := by decide +kernel
theorem d_X_init_4 : decode (jm_cd mY_X_init) 4 = .ok (.aload_n 0, 1) := by decide +kernel
theorem d_X_init_5 : decode (jm_cd mY_X_init) 5 = .ok (.sipush 300, 3) := by decide +kernel
theorem d_X_init_8 : decode (jm_cd mY_X_init) 8 = .ok (.newarray .byte, 2) := by decide +kernel
theorem d_X_init_10 : decode (jm_cd mY_X_init) 10 = .ok (.putfield 9, 3) := by decide +kernel
theorem d_X_init_13 : decode (jm_cd mY_X_init) 13 = .ok (.aload_n 0, 1) := by decide +kernel
theorem d_X_init_14 : decode (jm_cd mY_X_init) 14 = .ok (.iconst 0, 1) := by decide +kernel
theorem d_X_init_15 : decode (jm_cd mY_X_init) 15 = .ok (.putfield 13, 3) := by decide +kernel
theorem d_X_init_18 : decode (jm_cd mY_X_init) 18 = .ok (.aload_n 0, 1) := by decide +kernel
theorem d_X_init_19 : decode (jm_cd mY_X_init) 19 = .ok (.new 17, 3) := by decide +kernel
theorem d_X_init_22 : decode (jm_cd mY_X_init) 22 = .ok (.dup, 1) := by decide +kernel
theorem d_X_init_23 : decode (jm_cd mY_X_init) 23 = .ok (.invokespecial 19, 3) := by decide +kernel
theorem d_X_init_26 : decode (jm_cd mY_X_init) 26 = .ok (.putfield 20, 3) := by decide +kernel
theorem d_X_init_29 : decode (jm_cd mY_X_init) 29 = .ok (.aload_n 0, 1) := by decide +kernel
theorem d_X_init_30 : decode (jm_cd mY_X_init) 30 = .ok (.new 24, 3) := by decide +kernel
theorem d_X_init_33 : decode (jm_cd mY_X_init) 33 = .ok (.dup, 1) := by decide +kernel
theorem d_X_init_34 : decode (jm_cd mY_X_init) 34 = .ok (.invokespecial 26, 3) := by decide +kernel
theorem d_X_init_37 : decode (jm_cd mY_X_init) 37 = .ok (.putfield 27, 3) := by decide +kernel
theorem d_X_init_40 : decode (jm_cd mY_X_init) 40 = .ok (.aload_n 0, 1) := by decide +kernel
theorem d_X_init_41 : decode (jm_cd mY_X_init) 41 = .ok (.new 24, 3) := by decide +kernel
theorem d_X_init_44 : decode (jm_cd mY_X_init) 44 = .ok (.dup, 1) := by decide +kernel
theorem d_X_init_45 : decode (jm_cd mY_X_init) 45 = .ok (.invokespecial 26, 3) := by decide +kernel
theorem d_X_init_48 : decode (jm_cd mY_X_init) 48 = .ok (.putfield 31, 3) := by decide +kernel
theorem d_X_init_51 : decode (jm_cd mY_X_init) 51 = .ok (.aload_n 0, 1) := by decide +kernel
theorem d_X_init_52 : decode (jm_cd mY_X_init) 52 = .ok (.new 24, 3) := by decide +kernel
theorem d_X_init_55 : decode (jm_cd mY_X_init) 55 = .ok (.dup, 1) := by decide +kernel
theorem d_X_init_56 : decode (jm_cd mY_X_init) 56 = .ok (.invokespecial 26, 3) := by decide +kernel
theorem d_X_init_59 : decode (jm_cd mY_X_init) 59 = .ok (.putfield 34, 3) := by decide +kernel
theorem d_X_init_62 : decode (jm_cd mY_X_init) 62 = .ok (.aload_n 0, 1) := by decide +kernel
theorem d_X_init_63 : decode (jm_cd mY_X_init) 63 = .ok (.new 24, 3) := by decide +kernel
theorem d_X_init_66 : decode (jm_cd mY_X_init) 66 = .ok (.dup, 1) := by decide +kernel
theorem d_X_init_67 : decode (jm_cd mY_X_init) 67 = .ok (.invokespecial 26, 3) := by decide +kernel
theorem d_X_init_70 : decode (jm_cd mY_X_init) 70 = .ok (.putfield 37, 3) := by decide +kernel
theorem d_X_init_73 : decode (jm_cd mY_X_init) 73 = .ok (.aload_n 0, 1) := by decide +kernel
theorem d_X_init_74 : decode (jm_cd mY_X_init) 74 = .ok (.iconst 0, 1) := by decide +kernel
theorem d_X_init_75 : decode (jm_cd mY_X_init) 75 = .ok (.putfield 40, 3) := by decide +kernel
theorem d_X_init_78 : decode (jm_cd mY_X_init) 78 = .ok (.aload_n 0, 1) := by decide +kernel
theorem d_X_init_79 : decode (jm_cd mY_X_init) 79 = .ok (.new 43, 3) := by decide +kernel
theorem d_X_init_82 : decode (jm_cd mY_X_init) 82 = .ok (.dup, 1) := by decide +kernel
theorem d_X_init_83 : decode (jm_cd mY_X_init) 83 = .ok (.invokespecial 45, 3) := by decide +kernel
theorem d_X_init_86 : decode (jm_cd mY_X_init) 86 = .ok (.putfield 46, 3) := by decide +kernel
theorem d_X_init_89 : decode (jm_cd mY_X_init) 89 = .ok (.aload_n 0, 1) := by decide +kernel
theorem d_X_init_90 : decode (jm_cd mY_X_init) 90 = .ok (.iconst 0, 1) := by decide +kernel
theorem d_X_init_91 : decode (jm_cd mY_X_init) 91 = .ok (.putfield 50, 3) := by decide +kernel
theorem d_X_init_94 : decode (jm_cd mY_X_init) 94 = .ok (.aload_n 0, 1) := by decide +kernel
theorem d_X_init_95 : decode (jm_cd mY_X_init) 95 = .ok (.new 54, 3) := by decide +kernel
theorem d_X_init_98 : decode (jm_cd mY_X_init) 98 = .ok (.dup, 1) := by decide +kernel
theorem d_X_init_99 : decode (jm_cd mY_X_init) 99 = .ok (.invokespecial 56, 3) := by decide +kernel
theorem d_X_init_102 : decode (jm_cd mY_X_init) 102 = .ok (.putfield 57, 3) := by decide +kernel
theorem d_X_init_105 : decode (jm_cd mY_X_init) 105 = .ok (.aload_n 0, 1) := by decide +kernel
theorem d_X_init_106 : decode (jm_cd mY_X_init) 106 = .ok (.new 61, 3) := by decide +kernel
theorem d_X_init_109 : decode (jm_cd mY_X_init) 109 = .ok (.dup, 1) := by decide +kernel
theorem d_X_init_110 : decode (jm_cd mY_X_init) 110 = .ok (.invokespecial 63, 3) := by decide +kernel
theorem d_X_init_113 : decode (jm_cd mY_X_init) 113 = .ok (.putfield 64, 3) := by decide +kernel
theorem d_X_init_116 : decode (jm_cd mY_X_init) 116 = .ok (.aload_n 0, 1) := by decide +kernel
theorem d_X_init_117 : decode (jm_cd mY_X_init) 117 = .ok (.new 68, 3) := by decide +kernel
theorem d_X_init_120 : decode (jm_cd mY_X_init) 120 = .ok (.dup, 1) := by decide +kernel
theorem d_X_init_121 : decode (jm_cd mY_X_init) 121 = .ok (.invokespecial 70, 3) := by decide +kernel
theorem d_X_init_124 : decode (jm_cd mY_X_init) 124 = .ok (.putfield 71, 3) := by decide +kernel
theorem d_X_init_127 : decode (jm_cd mY_X_init) 127 = .ok (.aload_n 0, 1) := by decide +kernel
theorem d_X_init_128 : decode (jm_cd mY_X_init) 128 = .ok (.new 75, 3) := by decide +kernel
theorem d_X_init_131 : decode (jm_cd mY_X_init) 131 = .ok (.dup, 1) := by decide +kernel
theorem d_X_init_132 : decode (jm_cd mY_X_init) 132 = .ok (.invokespecial 77, 3) := by decide +kernel
theorem d_X_init_135 : decode (jm_cd mY_X_init) 135 = .ok (.putfield 78, 3) := by decide +kernel
theorem d_X_init_138 : decode (jm_cd mY_X_init) 138 = .ok (.return_, 1) := by decide +kernel
def s_X_init (s : jm_M) : Option jm_M := jm_ev (jm_z s 2) (fun s1 => jm_ev (jm_si s1 1 1 0) (fun s2 => jm_ev (jm_z s2 3) (fun s3 => jm_bd (s_Re_init s3) (fun s4 => jm_ev (jm_z s4 5) (fun s5 => jm_bd (s_Ne_init_5 s5) (fun s6 => jm_ev (jm_z s6 15) (fun s7 => jm_bd (s_Ne_init_15 s7) (fun s8 => jm_ev (jm_z s8 25) (fun s9 => jm_bd (s_Ne_init_25 s9) (fun s10 => jm_ev (jm_z s10 35) (fun s11 => jm_bd (s_Ne_init_35 s11) (fun s12 => jm_ev (jm_si s12 1 7 0) (fun s13 => jm_ev (jm_z s13 45) (fun s14 => jm_bd (s_Ni_init s14) (fun s15 => jm_ev (jm_si s15 1 9 0) (fun s16 => jm_ev (jm_z s16 48) (fun s17 => jm_bd (s_Co_init s17) (fun s18 => jm_ev (jm_z s18 53) (fun s19 => jm_bd (s_Si_init s19) (fun s20 => jm_ev (jm_z s20 55) (fun s21 => jm_bd (s_Wa_init s21) (fun s22 => jm_ev (jm_z s22 57) (fun s23 => jm_bd (s_Ki_init s23) (fun s24 => (some s24)))))))))))))))))))))))))
set_option maxRecDepth 100000 in
set_option maxHeartbeats 4000000 in
theorem s_X_init_ok (s : jm_M) : jm_Sim mY_X_init 0 0 0 [(0, .ref 1)] [] 1 mr_1 s (s_X_init s) (jm_rV 58 mr_115) := by
  unfold s_X_init
  refine jm_aload_n (pc := 0) (q := 0) (x := 1) d_X_init_0 rfl ?_
  refine jm_oinit (pc := 1) d_X_init_1 mlo_X_3 oi_im oi_cd (Nat.le_of_ble_eq_true rfl) (Nat.le_of_ble_eq_true rfl) ?_
  refine jm_aload_n (pc := 4) (q := 0) (x := 1) d_X_init_4 rfl ?_
  refine jm_sipush (pc := 5) (v := 300) d_X_init_5 cs_300 ?_
  refine jm_nab (pc := 8) (N := 300) d_X_init_8 ac_byte (by decide) (by decide) (by decide) sh_2 (Nat.le_of_ble_eq_true rfl) (Nat.le_of_ble_eq_true rfl) (fun s1 => ?_)
  show jm_Sim _ 1 300 10 [(0, .ref 1)] [.ref 2, .ref 1] 2 mr_2 s1 _ _
  refine jm_pr (pc := 10) (i := 1) (q := 2) d_X_init_10 fp_X_9 (fun _ => rfl) sh_1 ge_1 le_1_2 ge_2 rfl (fun _ => rfl) (fun _ => rfl) (fun _ _ _ => rfl) ?_
  refine jm_aload_n (pc := 13) (q := 0) (x := 1) d_X_init_13 rfl ?_
  refine jm_iconst (pc := 14) (v := 0) d_X_init_14 ci_0 ?_
  refine jm_pi (pc := 15) (i := 1) d_X_init_15 fp_X_13 sh_1 ge_1 le_1_2 rfl rfl rfl (fun _ _ _ => rfl) (fun s2 => ?_)
  refine jm_aload_n (pc := 18) (q := 0) (x := 1) d_X_init_18 rfl ?_
  refine jm_new (pc := 19) (ci := 4) d_X_init_19 inY5 rfl tyX5_ok ft_Re okt_Re cl_X_17 it_Re ini_Re sh_3 (Nat.le_of_ble_eq_true rfl) (Nat.le_of_ble_eq_true rfl) (fun s3 => ?_)
  show jm_Sim _ 2 307 22 [(0, .ref 1)] [.ref 3, .ref 1] 3 mr_4 s3 _ _
  refine jm_dup (pc := 22) d_X_init_22 rfl ?_
  refine jm_runI (pc := 23) (Y' := mY_Re_init) (i := 3) (avs := []) (rest := [.ref 3, .ref 1]) (s_Re_init_ok s3) ok_Re_init lk_X_init__Re_init ml_X_19 im_Re_init rfl rfl d_X_init_23 rfl ge_3 rfl (Nat.le_of_ble_eq_true rfl) (Nat.le_of_ble_eq_true rfl) (Nat.le_of_ble_eq_true rfl) (Nat.le_of_ble_eq_true rfl) (fun _ _ _ => rfl) (fun s4 => ?_)
  show jm_Sim _ 3 311 26 [(0, .ref 1)] [.ref 3, .ref 1] 4 mr_6 s4 _ _
  refine jm_pr (pc := 26) (i := 1) (q := 3) d_X_init_26 fp_X_20 (fun _ => rfl) sh_1 ge_1 le_1_4 ge_3 rfl (fun _ => rfl) (fun _ => rfl) (fun _ _ _ => rfl) ?_
  refine jm_aload_n (pc := 29) (q := 0) (x := 1) d_X_init_29 rfl ?_
  refine jm_new (pc := 30) (ci := 2) d_X_init_30 inY3 rfl tyX3_ok ft_Ne okt_Ne cl_X_24 it_Ne ini_Ne sh_5 (Nat.le_of_ble_eq_true rfl) (Nat.le_of_ble_eq_true rfl) (fun s5 => ?_)
  show jm_Sim _ 4 323 33 [(0, .ref 1)] [.ref 5, .ref 1] 5 mr_8 s5 _ _
  refine jm_dup (pc := 33) d_X_init_33 rfl ?_
  refine jm_runI (pc := 34) (Y' := mY_Ne_init) (i := 5) (avs := []) (rest := [.ref 5, .ref 1]) (s_Ne_init_5_ok s5) ok_Ne_init lk_X_init__Ne_init ml_X_26 im_Ne_init rfl rfl d_X_init_34 rfl ge_5 rfl (Nat.le_of_ble_eq_true rfl) (Nat.le_of_ble_eq_true rfl) (Nat.le_of_ble_eq_true rfl) (Nat.le_of_ble_eq_true rfl) (fun _ _ _ => rfl) (fun s6 => ?_)
  show jm_Sim _ 13 503 37 [(0, .ref 1)] [.ref 5, .ref 1] 14 mr_26 s6 _ _
  refine jm_pr (pc := 37) (i := 1) (q := 5) d_X_init_37 fp_X_27 (fun _ => rfl) sh_1 ge_1 le_1_14 ge_5 rfl (fun _ => rfl) (fun _ => rfl) (fun _ _ _ => rfl) ?_
  refine jm_aload_n (pc := 40) (q := 0) (x := 1) d_X_init_40 rfl ?_
  refine jm_new (pc := 41) (ci := 2) d_X_init_41 inY3 rfl tyX3_ok ft_Ne okt_Ne cl_X_24 it_Ne ini_Ne sh_15 (Nat.le_of_ble_eq_true rfl) (Nat.le_of_ble_eq_true rfl) (fun s7 => ?_)
  show jm_Sim _ 14 515 44 [(0, .ref 1)] [.ref 15, .ref 1] 15 mr_28 s7 _ _
  refine jm_dup (pc := 44) d_X_init_44 rfl ?_
  refine jm_runI (pc := 45) (Y' := mY_Ne_init) (i := 15) (avs := []) (rest := [.ref 15, .ref 1]) (s_Ne_init_15_ok s7) ok_Ne_init lk_X_init__Ne_init ml_X_26 im_Ne_init rfl rfl d_X_init_45 rfl ge_15 rfl (Nat.le_of_ble_eq_true rfl) (Nat.le_of_ble_eq_true rfl) (Nat.le_of_ble_eq_true rfl) (Nat.le_of_ble_eq_true rfl) (fun _ _ _ => rfl) (fun s8 => ?_)
  show jm_Sim _ 23 695 48 [(0, .ref 1)] [.ref 15, .ref 1] 24 mr_46 s8 _ _
  refine jm_pr (pc := 48) (i := 1) (q := 15) d_X_init_48 fp_X_31 (fun _ => rfl) sh_1 ge_1 le_1_24 ge_15 rfl (fun _ => rfl) (fun _ => rfl) (fun _ _ _ => rfl) ?_
  refine jm_aload_n (pc := 51) (q := 0) (x := 1) d_X_init_51 rfl ?_
  refine jm_new (pc := 52) (ci := 2) d_X_init_52 inY3 rfl tyX3_ok ft_Ne okt_Ne cl_X_24 it_Ne ini_Ne sh_25 (Nat.le_of_ble_eq_true rfl) (Nat.le_of_ble_eq_true rfl) (fun s9 => ?_)
  show jm_Sim _ 24 707 55 [(0, .ref 1)] [.ref 25, .ref 1] 25 mr_48 s9 _ _
  refine jm_dup (pc := 55) d_X_init_55 rfl ?_
  refine jm_runI (pc := 56) (Y' := mY_Ne_init) (i := 25) (avs := []) (rest := [.ref 25, .ref 1]) (s_Ne_init_25_ok s9) ok_Ne_init lk_X_init__Ne_init ml_X_26 im_Ne_init rfl rfl d_X_init_56 rfl ge_25 rfl (Nat.le_of_ble_eq_true rfl) (Nat.le_of_ble_eq_true rfl) (Nat.le_of_ble_eq_true rfl) (Nat.le_of_ble_eq_true rfl) (fun _ _ _ => rfl) (fun s10 => ?_)
  show jm_Sim _ 33 887 59 [(0, .ref 1)] [.ref 25, .ref 1] 34 mr_66 s10 _ _
  refine jm_pr (pc := 59) (i := 1) (q := 25) d_X_init_59 fp_X_34 (fun _ => rfl) sh_1 ge_1 le_1_34 ge_25 rfl (fun _ => rfl) (fun _ => rfl) (fun _ _ _ => rfl) ?_
  refine jm_aload_n (pc := 62) (q := 0) (x := 1) d_X_init_62 rfl ?_
  refine jm_new (pc := 63) (ci := 2) d_X_init_63 inY3 rfl tyX3_ok ft_Ne okt_Ne cl_X_24 it_Ne ini_Ne sh_35 (Nat.le_of_ble_eq_true rfl) (Nat.le_of_ble_eq_true rfl) (fun s11 => ?_)
  show jm_Sim _ 34 899 66 [(0, .ref 1)] [.ref 35, .ref 1] 35 mr_68 s11 _ _
  refine jm_dup (pc := 66) d_X_init_66 rfl ?_
  refine jm_runI (pc := 67) (Y' := mY_Ne_init) (i := 35) (avs := []) (rest := [.ref 35, .ref 1]) (s_Ne_init_35_ok s11) ok_Ne_init lk_X_init__Ne_init ml_X_26 im_Ne_init rfl rfl d_X_init_67 rfl ge_35 rfl (Nat.le_of_ble_eq_true rfl) (Nat.le_of_ble_eq_true rfl) (Nat.le_of_ble_eq_true rfl) (Nat.le_of_ble_eq_true rfl) (fun _ _ _ => rfl) (fun s12 => ?_)
  show jm_Sim _ 43 1079 70 [(0, .ref 1)] [.ref 35, .ref 1] 44 mr_86 s12 _ _
  refine jm_pr (pc := 70) (i := 1) (q := 35) d_X_init_70 fp_X_37 (fun _ => rfl) sh_1 ge_1 le_1_44 ge_35 rfl (fun _ => rfl) (fun _ => rfl) (fun _ _ _ => rfl) ?_
  refine jm_aload_n (pc := 73) (q := 0) (x := 1) d_X_init_73 rfl ?_
  refine jm_iconst (pc := 74) (v := 0) d_X_init_74 ci_0 ?_
  refine jm_pi (pc := 75) (i := 1) d_X_init_75 fp_X_40 sh_1 ge_1 le_1_44 rfl rfl rfl (fun _ _ _ => rfl) (fun s13 => ?_)
  refine jm_aload_n (pc := 78) (q := 0) (x := 1) d_X_init_78 rfl ?_
  refine jm_new (pc := 79) (ci := 3) d_X_init_79 inY4 rfl tyX4_ok ft_Ni okt_Ni cl_X_43 it_Ni ini_Ni sh_45 (Nat.le_of_ble_eq_true rfl) (Nat.le_of_ble_eq_true rfl) (fun s14 => ?_)
  show jm_Sim _ 44 1082 82 [(0, .ref 1)] [.ref 45, .ref 1] 45 mr_88 s14 _ _
  refine jm_dup (pc := 82) d_X_init_82 rfl ?_
  refine jm_runI (pc := 83) (Y' := mY_Ni_init) (i := 45) (avs := []) (rest := [.ref 45, .ref 1]) (s_Ni_init_ok s14) ok_Ni_init lk_X_init__Ni_init ml_X_45 im_Ni_init rfl rfl d_X_init_83 rfl ge_45 rfl (Nat.le_of_ble_eq_true rfl) (Nat.le_of_ble_eq_true rfl) (Nat.le_of_ble_eq_true rfl) (Nat.le_of_ble_eq_true rfl) (fun _ _ _ => rfl) (fun s15 => ?_)
  show jm_Sim _ 46 1102 86 [(0, .ref 1)] [.ref 45, .ref 1] 47 mr_92 s15 _ _
  refine jm_pr (pc := 86) (i := 1) (q := 45) d_X_init_86 fp_X_46 (fun _ => rfl) sh_1 ge_1 le_1_47 ge_45 rfl (fun _ => rfl) (fun _ => rfl) (fun _ _ _ => rfl) ?_
  refine jm_aload_n (pc := 89) (q := 0) (x := 1) d_X_init_89 rfl ?_
  refine jm_iconst (pc := 90) (v := 0) d_X_init_90 ci_0 ?_
  refine jm_pi (pc := 91) (i := 1) d_X_init_91 fp_X_50 sh_1 ge_1 le_1_47 rfl (by decide) (by decide) (fun _ _ _ => rfl) (fun s16 => ?_)
  refine jm_aload_n (pc := 94) (q := 0) (x := 1) d_X_init_94 rfl ?_
  refine jm_new (pc := 95) (ci := 0) d_X_init_95 inY0 rfl tyX0_ok ft_Co okt_Co cl_X_54 it_Co ini_Co sh_48 (Nat.le_of_ble_eq_true rfl) (Nat.le_of_ble_eq_true rfl) (fun s17 => ?_)
  show jm_Sim _ 47 1112 98 [(0, .ref 1)] [.ref 48, .ref 1] 48 mr_94 s17 _ _
  refine jm_dup (pc := 98) d_X_init_98 rfl ?_
  refine jm_runI (pc := 99) (Y' := mY_Co_init) (i := 48) (avs := []) (rest := [.ref 48, .ref 1]) (s_Co_init_ok s17) ok_Co_init lk_X_init__Co_init ml_X_56 im_Co_init rfl rfl d_X_init_99 rfl ge_48 rfl (Nat.le_of_ble_eq_true rfl) (Nat.le_of_ble_eq_true rfl) (Nat.le_of_ble_eq_true rfl) (Nat.le_of_ble_eq_true rfl) (fun _ _ _ => rfl) (fun s18 => ?_)
  show jm_Sim _ 51 1242 102 [(0, .ref 1)] [.ref 48, .ref 1] 52 mr_102 s18 _ _
  refine jm_pr (pc := 102) (i := 1) (q := 48) d_X_init_102 fp_X_57 (fun _ => rfl) sh_1 ge_1 le_1_52 ge_48 rfl (fun _ => rfl) (fun _ => rfl) (fun _ _ _ => rfl) ?_
  refine jm_aload_n (pc := 105) (q := 0) (x := 1) d_X_init_105 rfl ?_
  refine jm_new (pc := 106) (ci := 5) d_X_init_106 inY6 rfl tyX6_ok ft_Si okt_Si cl_X_61 it_Si ini_Si sh_53 (Nat.le_of_ble_eq_true rfl) (Nat.le_of_ble_eq_true rfl) (fun s19 => ?_)
  show jm_Sim _ 52 1243 109 [(0, .ref 1)] [.ref 53, .ref 1] 53 mr_104 s19 _ _
  refine jm_dup (pc := 109) d_X_init_109 rfl ?_
  refine jm_runI (pc := 110) (Y' := mY_Si_init) (i := 53) (avs := []) (rest := [.ref 53, .ref 1]) (s_Si_init_ok s19) ok_Si_init lk_X_init__Si_init ml_X_63 im_Si_init rfl rfl d_X_init_110 rfl ge_53 rfl (Nat.le_of_ble_eq_true rfl) (Nat.le_of_ble_eq_true rfl) (Nat.le_of_ble_eq_true rfl) (Nat.le_of_ble_eq_true rfl) (fun _ _ _ => rfl) (fun s20 => ?_)
  show jm_Sim _ 53 1315 113 [(0, .ref 1)] [.ref 53, .ref 1] 54 mr_106 s20 _ _
  refine jm_pr (pc := 113) (i := 1) (q := 53) d_X_init_113 fp_X_64 (fun _ => rfl) sh_1 ge_1 le_1_54 ge_53 rfl (fun _ => rfl) (fun _ => rfl) (fun _ _ _ => rfl) ?_
  refine jm_aload_n (pc := 116) (q := 0) (x := 1) d_X_init_116 rfl ?_
  refine jm_new (pc := 117) (ci := 6) d_X_init_117 inY7 rfl tyX7_ok ft_Wa okt_Wa cl_X_68 it_Wa ini_Wa sh_55 (Nat.le_of_ble_eq_true rfl) (Nat.le_of_ble_eq_true rfl) (fun s21 => ?_)
  show jm_Sim _ 54 1316 120 [(0, .ref 1)] [.ref 55, .ref 1] 55 mr_108 s21 _ _
  refine jm_dup (pc := 120) d_X_init_120 rfl ?_
  refine jm_runI (pc := 121) (Y' := mY_Wa_init) (i := 55) (avs := []) (rest := [.ref 55, .ref 1]) (s_Wa_init_ok s21) ok_Wa_init lk_X_init__Wa_init ml_X_70 im_Wa_init rfl rfl d_X_init_121 rfl ge_55 rfl (Nat.le_of_ble_eq_true rfl) (Nat.le_of_ble_eq_true rfl) (Nat.le_of_ble_eq_true rfl) (Nat.le_of_ble_eq_true rfl) (fun _ _ _ => rfl) (fun s22 => ?_)
  show jm_Sim _ 55 1320 124 [(0, .ref 1)] [.ref 55, .ref 1] 56 mr_110 s22 _ _
  refine jm_pr (pc := 124) (i := 1) (q := 55) d_X_init_124 fp_X_71 (fun _ => rfl) sh_1 ge_1 le_1_56 ge_55 rfl (fun _ => rfl) (fun _ => rfl) (fun _ _ _ => rfl) ?_
  refine jm_aload_n (pc := 127) (q := 0) (x := 1) d_X_init_127 rfl ?_
  refine jm_new (pc := 128) (ci := 1) d_X_init_128 inY1 rfl tyX1_ok ft_Ki okt_Ki cl_X_75 it_Ki ini_Ki sh_57 (Nat.le_of_ble_eq_true rfl) (Nat.le_of_ble_eq_true rfl) (fun s23 => ?_)
  show jm_Sim _ 56 1321 131 [(0, .ref 1)] [.ref 57, .ref 1] 57 mr_112 s23 _ _
  refine jm_dup (pc := 131) d_X_init_131 rfl ?_
  refine jm_runI (pc := 132) (Y' := mY_Ki_init) (i := 57) (avs := []) (rest := [.ref 57, .ref 1]) (s_Ki_init_ok s23) ok_Ki_init lk_X_init__Ki_init ml_X_77 im_Ki_init rfl rfl d_X_init_132 rfl ge_57 rfl (Nat.le_of_ble_eq_true rfl) (Nat.le_of_ble_eq_true rfl) (Nat.le_of_ble_eq_true rfl) (Nat.le_of_ble_eq_true rfl) (fun _ _ _ => rfl) (fun s24 => ?_)
  show jm_Sim _ 57 1324 135 [(0, .ref 1)] [.ref 57, .ref 1] 58 mr_114 s24 _ _
  refine jm_pr (pc := 135) (i := 1) (q := 57) d_X_init_135 fp_X_78 (fun _ => rfl) sh_1 ge_1 le_1_58 ge_57 rfl (fun _ => rfl) (fun _ => rfl) (fun _ _ _ => rfl) ?_
  exact jm_vret (pc := 138) d_X_init_138 rfl rfl rfl rfl
theorem d_Z_init_0 : decode (jm_cd mY_Z_init) 0 = .ok (.aload_n 0, 1) := by decide +kernel
theorem d_Z_init_1 : decode (jm_cd mY_Z_init) 1 = .ok (.invokespecial 1, 3) := by decide +kernel
theorem d_Z_init_4 : decode (jm_cd mY_Z_init) 4 = .ok (.aload_n 0, 1) := by decide +kernel
theorem d_Z_init_5 : decode (jm_cd mY_Z_init) 5 = .ok (.sipush 300, 3) := by decide +kernel
theorem d_Z_init_8 : decode (jm_cd mY_Z_init) 8 = .ok (.newarray .int, 2) := by decide +kernel
theorem d_Z_init_10 : decode (jm_cd mY_Z_init) 10 = .ok (.putfield 7, 3) := by decide +kernel
theorem d_Z_init_13 : decode (jm_cd mY_Z_init) 13 = .ok (.aload_n 0, 1) := by decide +kernel
theorem d_Z_init_14 : decode (jm_cd mY_Z_init) 14 = .ok (.iconst 4, 1) := by decide +kernel
theorem d_Z_init_15 : decode (jm_cd mY_Z_init) 15 = .ok (.newarray .int, 2) := by decide +kernel
theorem d_Z_init_17 : decode (jm_cd mY_Z_init) 17 = .ok (.putfield 13, 3) := by decide +kernel
theorem d_Z_init_20 : decode (jm_cd mY_Z_init) 20 = .ok (.aload_n 0, 1) := by decide +kernel
theorem d_Z_init_21 : decode (jm_cd mY_Z_init) 21 = .ok (.bipush 40, 2) := by decide +kernel
theorem d_Z_init_23 : decode (jm_cd mY_Z_init) 23 = .ok (.newarray .int, 2) := by decide +kernel
theorem d_Z_init_25 : decode (jm_cd mY_Z_init) 25 = .ok (.putfield 16, 3) := by decide +kernel
theorem d_Z_init_28 : decode (jm_cd mY_Z_init) 28 = .ok (.aload_n 0, 1) := by decide +kernel
theorem d_Z_init_29 : decode (jm_cd mY_Z_init) 29 = .ok (.bipush 40, 2) := by decide +kernel
theorem d_Z_init_31 : decode (jm_cd mY_Z_init) 31 = .ok (.newarray .int, 2) := by decide +kernel
theorem d_Z_init_33 : decode (jm_cd mY_Z_init) 33 = .ok (.putfield 19, 3) := by decide +kernel
theorem d_Z_init_36 : decode (jm_cd mY_Z_init) 36 = .ok (.aload_n 0, 1) := by decide +kernel
theorem d_Z_init_37 : decode (jm_cd mY_Z_init) 37 = .ok (.bipush 40, 2) := by decide +kernel
theorem d_Z_init_39 : decode (jm_cd mY_Z_init) 39 = .ok (.newarray .int, 2) := by decide +kernel
theorem d_Z_init_41 : decode (jm_cd mY_Z_init) 41 = .ok (.putfield 22, 3) := by decide +kernel
theorem d_Z_init_44 : decode (jm_cd mY_Z_init) 44 = .ok (.aload_n 0, 1) := by decide +kernel
theorem d_Z_init_45 : decode (jm_cd mY_Z_init) 45 = .ok (.bipush 40, 2) := by decide +kernel
theorem d_Z_init_47 : decode (jm_cd mY_Z_init) 47 = .ok (.newarray .int, 2) := by decide +kernel
theorem d_Z_init_49 : decode (jm_cd mY_Z_init) 49 = .ok (.putfield 25, 3) := by decide +kernel
theorem d_Z_init_52 : decode (jm_cd mY_Z_init) 52 = .ok (.aload_n 0, 1) := by decide +kernel
theorem d_Z_init_53 : decode (jm_cd mY_Z_init) 53 = .ok (.bipush 40, 2) := by decide +kernel
theorem d_Z_init_55 : decode (jm_cd mY_Z_init) 55 = .ok (.newarray .int, 2) := by decide +kernel
theorem d_Z_init_57 : decode (jm_cd mY_Z_init) 57 = .ok (.putfield 28, 3) := by decide +kernel
theorem d_Z_init_60 : decode (jm_cd mY_Z_init) 60 = .ok (.aload_n 0, 1) := by decide +kernel
theorem d_Z_init_61 : decode (jm_cd mY_Z_init) 61 = .ok (.iconst 4, 1) := by decide +kernel
theorem d_Z_init_62 : decode (jm_cd mY_Z_init) 62 = .ok (.newarray .int, 2) := by decide +kernel
theorem d_Z_init_64 : decode (jm_cd mY_Z_init) 64 = .ok (.putfield 31, 3) := by decide +kernel
theorem d_Z_init_67 : decode (jm_cd mY_Z_init) 67 = .ok (.aload_n 0, 1) := by decide +kernel
theorem d_Z_init_68 : decode (jm_cd mY_Z_init) 68 = .ok (.sipush 860, 3) := by decide +kernel
theorem d_Z_init_71 : decode (jm_cd mY_Z_init) 71 = .ok (.newarray .int, 2) := by decide +kernel
theorem d_Z_init_73 : decode (jm_cd mY_Z_init) 73 = .ok (.putfield 34, 3) := by decide +kernel
theorem d_Z_init_76 : decode (jm_cd mY_Z_init) 76 = .ok (.aload_n 0, 1) := by decide +kernel
theorem d_Z_init_77 : decode (jm_cd mY_Z_init) 77 = .ok (.bipush 9, 2) := by decide +kernel
theorem d_Z_init_79 : decode (jm_cd mY_Z_init) 79 = .ok (.newarray .int, 2) := by decide +kernel
theorem d_Z_init_81 : decode (jm_cd mY_Z_init) 81 = .ok (.putfield 37, 3) := by decide +kernel
theorem d_Z_init_84 : decode (jm_cd mY_Z_init) 84 = .ok (.aload_n 0, 1) := by decide +kernel
theorem d_Z_init_85 : decode (jm_cd mY_Z_init) 85 = .ok (.bipush 30, 2) := by decide +kernel
theorem d_Z_init_87 : decode (jm_cd mY_Z_init) 87 = .ok (.newarray .int, 2) := by decide +kernel
theorem d_Z_init_89 : decode (jm_cd mY_Z_init) 89 = .ok (.putfield 40, 3) := by decide +kernel
theorem d_Z_init_92 : decode (jm_cd mY_Z_init) 92 = .ok (.aload_n 0, 1) := by decide +kernel
theorem d_Z_init_93 : decode (jm_cd mY_Z_init) 93 = .ok (.bipush 72, 2) := by decide +kernel
theorem d_Z_init_95 : decode (jm_cd mY_Z_init) 95 = .ok (.newarray .int, 2) := by decide +kernel
theorem d_Z_init_97 : decode (jm_cd mY_Z_init) 97 = .ok (.putfield 43, 3) := by decide +kernel
theorem d_Z_init_100 : decode (jm_cd mY_Z_init) 100 = .ok (.aload_n 0, 1) := by decide +kernel
theorem d_Z_init_101 : decode (jm_cd mY_Z_init) 101 = .ok (.iconst 3, 1) := by decide +kernel
theorem d_Z_init_102 : decode (jm_cd mY_Z_init) 102 = .ok (.newarray .int, 2) := by decide +kernel
theorem d_Z_init_104 : decode (jm_cd mY_Z_init) 104 = .ok (.dup, 1) := by decide +kernel
theorem d_Z_init_105 : decode (jm_cd mY_Z_init) 105 = .ok (.iconst 0, 1) := by decide +kernel
theorem d_Z_init_106 : decode (jm_cd mY_Z_init) 106 = .ok (.bipush 100, 2) := by decide +kernel
theorem d_Z_init_108 : decode (jm_cd mY_Z_init) 108 = .ok (.iastore, 1) := by decide +kernel
theorem d_Z_init_109 : decode (jm_cd mY_Z_init) 109 = .ok (.dup, 1) := by decide +kernel
theorem d_Z_init_110 : decode (jm_cd mY_Z_init) 110 = .ok (.iconst 1, 1) := by decide +kernel
theorem d_Z_init_111 : decode (jm_cd mY_Z_init) 111 = .ok (.sipush 1000, 3) := by decide +kernel
theorem d_Z_init_114 : decode (jm_cd mY_Z_init) 114 = .ok (.iastore, 1) := by decide +kernel
theorem d_Z_init_115 : decode (jm_cd mY_Z_init) 115 = .ok (.dup, 1) := by decide +kernel
theorem d_Z_init_116 : decode (jm_cd mY_Z_init) 116 = .ok (.iconst 2, 1) := by decide +kernel
theorem d_Z_init_117 : decode (jm_cd mY_Z_init) 117 = .ok (.bipush 100, 2) := by decide +kernel
theorem d_Z_init_119 : decode (jm_cd mY_Z_init) 119 = .ok (.iastore, 1) := by decide +kernel
theorem d_Z_init_120 : decode (jm_cd mY_Z_init) 120 = .ok (.putfield 46, 3) := by decide +kernel
theorem d_Z_init_123 : decode (jm_cd mY_Z_init) 123 = .ok (.aload_n 0, 1) := by decide +kernel
theorem d_Z_init_124 : decode (jm_cd mY_Z_init) 124 = .ok (.iconst 4, 1) := by decide +kernel
theorem d_Z_init_125 : decode (jm_cd mY_Z_init) 125 = .ok (.newarray .int, 2) := by decide +kernel
theorem d_Z_init_127 : decode (jm_cd mY_Z_init) 127 = .ok (.putfield 49, 3) := by decide +kernel
theorem d_Z_init_130 : decode (jm_cd mY_Z_init) 130 = .ok (.aload_n 0, 1) := by decide +kernel
theorem d_Z_init_131 : decode (jm_cd mY_Z_init) 131 = .ok (.bipush 60, 2) := by decide +kernel
theorem d_Z_init_133 : decode (jm_cd mY_Z_init) 133 = .ok (.newarray .int, 2) := by decide +kernel
theorem d_Z_init_135 : decode (jm_cd mY_Z_init) 135 = .ok (.putfield 52, 3) := by decide +kernel
theorem d_Z_init_138 : decode (jm_cd mY_Z_init) 138 = .ok (.aload_n 0, 1) := by decide +kernel
theorem d_Z_init_139 : decode (jm_cd mY_Z_init) 139 = .ok (.bipush 10, 2) := by decide +kernel
theorem d_Z_init_141 : decode (jm_cd mY_Z_init) 141 = .ok (.newarray .int, 2) := by decide +kernel
theorem d_Z_init_143 : decode (jm_cd mY_Z_init) 143 = .ok (.putfield 55, 3) := by decide +kernel
theorem d_Z_init_146 : decode (jm_cd mY_Z_init) 146 = .ok (.aload_n 0, 1) := by decide +kernel
theorem d_Z_init_147 : decode (jm_cd mY_Z_init) 147 = .ok (.bipush 10, 2) := by decide +kernel
theorem d_Z_init_149 : decode (jm_cd mY_Z_init) 149 = .ok (.newarray .int, 2) := by decide +kernel
theorem d_Z_init_151 : decode (jm_cd mY_Z_init) 151 = .ok (.putfield 58, 3) := by decide +kernel
theorem d_Z_init_154 : decode (jm_cd mY_Z_init) 154 = .ok (.aload_n 0, 1) := by decide +kernel
theorem d_Z_init_155 : decode (jm_cd mY_Z_init) 155 = .ok (.bipush 10, 2) := by decide +kernel
theorem d_Z_init_157 : decode (jm_cd mY_Z_init) 157 = .ok (.newarray .int, 2) := by decide +kernel
theorem d_Z_init_159 : decode (jm_cd mY_Z_init) 159 = .ok (.putfield 61, 3) := by decide +kernel
theorem d_Z_init_162 : decode (jm_cd mY_Z_init) 162 = .ok (.aload_n 0, 1) := by decide +kernel
theorem d_Z_init_163 : decode (jm_cd mY_Z_init) 163 = .ok (.iconst 4, 1) := by decide +kernel
theorem d_Z_init_164 : decode (jm_cd mY_Z_init) 164 = .ok (.newarray .int, 2) := by decide +kernel
theorem d_Z_init_166 : decode (jm_cd mY_Z_init) 166 = .ok (.putfield 64, 3) := by decide +kernel
theorem d_Z_init_169 : decode (jm_cd mY_Z_init) 169 = .ok (.iconst 0, 1) := by decide +kernel
theorem d_Z_init_170 : decode (jm_cd mY_Z_init) 170 = .ok (.istore_n 1, 1) := by decide +kernel
theorem d_Z_init_171 : decode (jm_cd mY_Z_init) 171 = .ok (.iload_n 1, 1) := by decide +kernel
theorem d_Z_init_172 : decode (jm_cd mY_Z_init) 172 = .ok (.bipush 10, 2) := by decide +kernel
theorem d_Z_init_174 : decode (jm_cd mY_Z_init) 174 = .ok (.if_icmp .ge 16, 3) := by decide +kernel
theorem d_Z_init_177 : decode (jm_cd mY_Z_init) 177 = .ok (.aload_n 0, 1) := by decide +kernel
theorem d_Z_init_178 : decode (jm_cd mY_Z_init) 178 = .ok (.getfield 40, 3) := by decide +kernel
theorem d_Z_init_181 : decode (jm_cd mY_Z_init) 181 = .ok (.iload_n 1, 1) := by decide +kernel
theorem d_Z_init_182 : decode (jm_cd mY_Z_init) 182 = .ok (.iconst (-1), 1) := by decide +kernel
theorem d_Z_init_183 : decode (jm_cd mY_Z_init) 183 = .ok (.iastore, 1) := by decide +kernel
theorem d_Z_init_184 : decode (jm_cd mY_Z_init) 184 = .ok (.iinc 1 1, 3) := by decide +kernel
theorem d_Z_init_187 : decode (jm_cd mY_Z_init) 187 = .ok (.goto (-16), 3) := by decide +kernel
theorem d_Z_init_190 : decode (jm_cd mY_Z_init) 190 = .ok (.return_, 1) := by decide +kernel
def s_Z_init_L171 : Nat → Int32 → jm_M → Option jm_M
  | 0, _, _ => none
  | n + 1, x1, s => (if 10 ≤ x1 then (some s) else jm_sti s 70 30 x1 (-1) (fun s23 => s_Z_init_L171 n (x1 + 1) s23))
set_option maxRecDepth 100000 in
set_option maxHeartbeats 4000000 in
theorem s_Z_init_L171_ok : ∀ (n : Nat) (x1 : Int32) (s : jm_M), jm_Sim mY_Z_init 19 1580 171 [(0, .ref 59), (1, .int x1)] [] 78 mr_154 s (s_Z_init_L171 n x1 s) (jm_rV 78 mr_154) := by
  intro n
  induction n with
  | zero => intro x1 s; exact jm_none
  | succ n ih =>
    intro x1 s
    rw [s_Z_init_L171]
    refine jm_iload_n (pc := 171) (q := 1) (x := x1) d_Z_init_171 rfl ?_
    refine jm_bipush (pc := 172) (v := 10) d_Z_init_172 cb_10 ?_
    refine jm_icmp_ge (pc := 174) (tgt := 190) d_Z_init_174 (by decide) ?_ ?_
    · exact jm_vret (pc := 190) d_Z_init_190 rfl rfl rfl rfl
    · refine jm_aload_n (pc := 177) (q := 0) (x := 59) d_Z_init_177 rfl ?_
      refine jm_gr (pc := 178) (i := 59) d_Z_init_178 fo_Z_40 sh_59 ge_59 le_59_78 rfl (fun _ => rfl) mr_154_59_11 ge_70 ?_
      refine jm_iload_n (pc := 181) (q := 1) (x := x1) d_Z_init_181 rfl ?_
      refine jm_iconst (pc := 182) (v := (-1)) d_Z_init_182 ci_m1 ?_
      refine jm_iast (pc := 183) d_Z_init_183 sh_70 ge_70 le_70_78 (fun s23 => ?_)
      refine jm_iinc (pc := 184) (q := 1) (x := x1) (v := 1) (L2 := [(1, .int (x1 + 1)), (0, .ref 59)]) d_Z_init_184 rfl ci_1 (Nat.le_of_ble_eq_true rfl) rfl ?_
      refine jm_goto (pc := 187) (tgt := 171) d_Z_init_187 (by decide) ?_
      refine jm_sub (L2 := [(0, .ref 59), (1, .int (x1 + 1))]) [1, 0] rfl ?_
      exact ih (x1 + 1) s23
def s_Z_init (s : jm_M) : Option jm_M := jm_ev (jm_z s 60) (fun s1 => jm_ev (jm_z s1 61) (fun s2 => jm_ev (jm_z s2 62) (fun s3 => jm_ev (jm_z s3 63) (fun s4 => jm_ev (jm_z s4 64) (fun s5 => jm_ev (jm_z s5 65) (fun s6 => jm_ev (jm_z s6 66) (fun s7 => jm_ev (jm_z s7 67) (fun s8 => jm_ev (jm_z s8 68) (fun s9 => jm_ev (jm_z s9 69) (fun s10 => jm_ev (jm_z s10 70) (fun s11 => jm_ev (jm_z s11 71) (fun s12 => jm_ev (jm_z s12 72) (fun s13 => jm_sti s13 72 3 0 100 (fun s14 => jm_sti s14 72 3 1 1000 (fun s15 => jm_sti s15 72 3 2 100 (fun s16 => jm_ev (jm_z s16 73) (fun s17 => jm_ev (jm_z s17 74) (fun s18 => jm_ev (jm_z s18 75) (fun s19 => jm_ev (jm_z s19 76) (fun s20 => jm_ev (jm_z s20 77) (fun s21 => jm_ev (jm_z s21 78) (fun s22 => s_Z_init_L171 5000 0 s22))))))))))))))))))))))
set_option maxRecDepth 100000 in
set_option maxHeartbeats 4000000 in
theorem s_Z_init_ok (s : jm_M) : jm_Sim mY_Z_init 0 0 0 [(0, .ref 59)] [] 59 mr_116 s (s_Z_init s) (jm_rV 78 mr_154) := by
  unfold s_Z_init
  refine jm_aload_n (pc := 0) (q := 0) (x := 59) d_Z_init_0 rfl ?_
  refine jm_oinit (pc := 1) d_Z_init_1 mlo_Z_1 oi_im oi_cd (Nat.le_of_ble_eq_true rfl) (Nat.le_of_ble_eq_true rfl) ?_
  refine jm_aload_n (pc := 4) (q := 0) (x := 59) d_Z_init_4 rfl ?_
  refine jm_sipush (pc := 5) (v := 300) d_Z_init_5 cs_300 ?_
  refine jm_nai (pc := 8) (N := 300) d_Z_init_8 ac_int (by decide) (by decide) (by decide) sh_60 (Nat.le_of_ble_eq_true rfl) (Nat.le_of_ble_eq_true rfl) (fun s1 => ?_)
  show jm_Sim _ 1 300 10 [(0, .ref 59)] [.ref 60, .ref 59] 60 mr_117 s1 _ _
  refine jm_pr (pc := 10) (i := 59) (q := 60) d_Z_init_10 fp_Z_7 (fun _ => rfl) sh_59 ge_59 le_59_60 ge_60 rfl (fun _ => rfl) (fun _ => rfl) (fun _ _ _ => rfl) ?_
  refine jm_aload_n (pc := 13) (q := 0) (x := 59) d_Z_init_13 rfl ?_
  refine jm_iconst (pc := 14) (v := 4) d_Z_init_14 ci_4 ?_
  refine jm_nai (pc := 15) (N := 4) d_Z_init_15 ac_int (by decide) (by decide) (by decide) sh_61 (Nat.le_of_ble_eq_true rfl) (Nat.le_of_ble_eq_true rfl) (fun s2 => ?_)
  show jm_Sim _ 2 304 17 [(0, .ref 59)] [.ref 61, .ref 59] 61 mr_119 s2 _ _
  refine jm_pr (pc := 17) (i := 59) (q := 61) d_Z_init_17 fp_Z_13 (fun _ => rfl) sh_59 ge_59 le_59_61 ge_61 rfl (fun _ => rfl) (fun _ => rfl) (fun _ _ _ => rfl) ?_
  refine jm_aload_n (pc := 20) (q := 0) (x := 59) d_Z_init_20 rfl ?_
  refine jm_bipush (pc := 21) (v := 40) d_Z_init_21 cb_40 ?_
  refine jm_nai (pc := 23) (N := 40) d_Z_init_23 ac_int (by decide) (by decide) (by decide) sh_62 (Nat.le_of_ble_eq_true rfl) (Nat.le_of_ble_eq_true rfl) (fun s3 => ?_)
  show jm_Sim _ 3 344 25 [(0, .ref 59)] [.ref 62, .ref 59] 62 mr_121 s3 _ _
  refine jm_pr (pc := 25) (i := 59) (q := 62) d_Z_init_25 fp_Z_16 (fun _ => rfl) sh_59 ge_59 le_59_62 ge_62 rfl (fun _ => rfl) (fun _ => rfl) (fun _ _ _ => rfl) ?_
  refine jm_aload_n (pc := 28) (q := 0) (x := 59) d_Z_init_28 rfl ?_
  refine jm_bipush (pc := 29) (v := 40) d_Z_init_29 cb_40 ?_
  refine jm_nai (pc := 31) (N := 40) d_Z_init_31 ac_int (by decide) (by decide) (by decide) sh_63 (Nat.le_of_ble_eq_true rfl) (Nat.le_of_ble_eq_true rfl) (fun s4 => ?_)
  show jm_Sim _ 4 384 33 [(0, .ref 59)] [.ref 63, .ref 59] 63 mr_123 s4 _ _
  refine jm_pr (pc := 33) (i := 59) (q := 63) d_Z_init_33 fp_Z_19 (fun _ => rfl) sh_59 ge_59 le_59_63 ge_63 rfl (fun _ => rfl) (fun _ => rfl) (fun _ _ _ => rfl) ?_
  refine jm_aload_n (pc := 36) (q := 0) (x := 59) d_Z_init_36 rfl ?_
  refine jm_bipush (pc := 37) (v := 40) d_Z_init_37 cb_40 ?_
  refine jm_nai (pc := 39) (N := 40) d_Z_init_39 ac_int (by decide) (by decide) (by decide) sh_64 (Nat.le_of_ble_eq_true rfl) (Nat.le_of_ble_eq_true rfl) (fun s5 => ?_)
  show jm_Sim _ 5 424 41 [(0, .ref 59)] [.ref 64, .ref 59] 64 mr_125 s5 _ _
  refine jm_pr (pc := 41) (i := 59) (q := 64) d_Z_init_41 fp_Z_22 (fun _ => rfl) sh_59 ge_59 le_59_64 ge_64 rfl (fun _ => rfl) (fun _ => rfl) (fun _ _ _ => rfl) ?_
  refine jm_aload_n (pc := 44) (q := 0) (x := 59) d_Z_init_44 rfl ?_
  refine jm_bipush (pc := 45) (v := 40) d_Z_init_45 cb_40 ?_
  refine jm_nai (pc := 47) (N := 40) d_Z_init_47 ac_int (by decide) (by decide) (by decide) sh_65 (Nat.le_of_ble_eq_true rfl) (Nat.le_of_ble_eq_true rfl) (fun s6 => ?_)
  show jm_Sim _ 6 464 49 [(0, .ref 59)] [.ref 65, .ref 59] 65 mr_127 s6 _ _
  refine jm_pr (pc := 49) (i := 59) (q := 65) d_Z_init_49 fp_Z_25 (fun _ => rfl) sh_59 ge_59 le_59_65 ge_65 rfl (fun _ => rfl) (fun _ => rfl) (fun _ _ _ => rfl) ?_
  refine jm_aload_n (pc := 52) (q := 0) (x := 59) d_Z_init_52 rfl ?_
  refine jm_bipush (pc := 53) (v := 40) d_Z_init_53 cb_40 ?_
  refine jm_nai (pc := 55) (N := 40) d_Z_init_55 ac_int (by decide) (by decide) (by decide) sh_66 (Nat.le_of_ble_eq_true rfl) (Nat.le_of_ble_eq_true rfl) (fun s7 => ?_)
  show jm_Sim _ 7 504 57 [(0, .ref 59)] [.ref 66, .ref 59] 66 mr_129 s7 _ _
  refine jm_pr (pc := 57) (i := 59) (q := 66) d_Z_init_57 fp_Z_28 (fun _ => rfl) sh_59 ge_59 le_59_66 ge_66 rfl (fun _ => rfl) (fun _ => rfl) (fun _ _ _ => rfl) ?_
  refine jm_aload_n (pc := 60) (q := 0) (x := 59) d_Z_init_60 rfl ?_
  refine jm_iconst (pc := 61) (v := 4) d_Z_init_61 ci_4 ?_
  refine jm_nai (pc := 62) (N := 4) d_Z_init_62 ac_int (by decide) (by decide) (by decide) sh_67 (Nat.le_of_ble_eq_true rfl) (Nat.le_of_ble_eq_true rfl) (fun s8 => ?_)
  show jm_Sim _ 8 508 64 [(0, .ref 59)] [.ref 67, .ref 59] 67 mr_131 s8 _ _
  refine jm_pr (pc := 64) (i := 59) (q := 67) d_Z_init_64 fp_Z_31 (fun _ => rfl) sh_59 ge_59 le_59_67 ge_67 rfl (fun _ => rfl) (fun _ => rfl) (fun _ _ _ => rfl) ?_
  refine jm_aload_n (pc := 67) (q := 0) (x := 59) d_Z_init_67 rfl ?_
  refine jm_sipush (pc := 68) (v := 860) d_Z_init_68 cs_860 ?_
  refine jm_nai (pc := 71) (N := 860) d_Z_init_71 ac_int (by decide) (by decide) (by decide) sh_68 (Nat.le_of_ble_eq_true rfl) (Nat.le_of_ble_eq_true rfl) (fun s9 => ?_)
  show jm_Sim _ 9 1368 73 [(0, .ref 59)] [.ref 68, .ref 59] 68 mr_133 s9 _ _
  refine jm_pr (pc := 73) (i := 59) (q := 68) d_Z_init_73 fp_Z_34 (fun _ => rfl) sh_59 ge_59 le_59_68 ge_68 rfl (fun _ => rfl) (fun _ => rfl) (fun _ _ _ => rfl) ?_
  refine jm_aload_n (pc := 76) (q := 0) (x := 59) d_Z_init_76 rfl ?_
  refine jm_bipush (pc := 77) (v := 9) d_Z_init_77 cb_9 ?_
  refine jm_nai (pc := 79) (N := 9) d_Z_init_79 ac_int (by decide) (by decide) (by decide) sh_69 (Nat.le_of_ble_eq_true rfl) (Nat.le_of_ble_eq_true rfl) (fun s10 => ?_)
  show jm_Sim _ 10 1377 81 [(0, .ref 59)] [.ref 69, .ref 59] 69 mr_135 s10 _ _
  refine jm_pr (pc := 81) (i := 59) (q := 69) d_Z_init_81 fp_Z_37 (fun _ => rfl) sh_59 ge_59 le_59_69 ge_69 rfl (fun _ => rfl) (fun _ => rfl) (fun _ _ _ => rfl) ?_
  refine jm_aload_n (pc := 84) (q := 0) (x := 59) d_Z_init_84 rfl ?_
  refine jm_bipush (pc := 85) (v := 30) d_Z_init_85 cb_30 ?_
  refine jm_nai (pc := 87) (N := 30) d_Z_init_87 ac_int (by decide) (by decide) (by decide) sh_70 (Nat.le_of_ble_eq_true rfl) (Nat.le_of_ble_eq_true rfl) (fun s11 => ?_)
  show jm_Sim _ 11 1407 89 [(0, .ref 59)] [.ref 70, .ref 59] 70 mr_137 s11 _ _
  refine jm_pr (pc := 89) (i := 59) (q := 70) d_Z_init_89 fp_Z_40 (fun _ => rfl) sh_59 ge_59 le_59_70 ge_70 rfl (fun _ => rfl) (fun _ => rfl) (fun _ _ _ => rfl) ?_
  refine jm_aload_n (pc := 92) (q := 0) (x := 59) d_Z_init_92 rfl ?_
  refine jm_bipush (pc := 93) (v := 72) d_Z_init_93 cb_72 ?_
  refine jm_nai (pc := 95) (N := 72) d_Z_init_95 ac_int (by decide) (by decide) (by decide) sh_71 (Nat.le_of_ble_eq_true rfl) (Nat.le_of_ble_eq_true rfl) (fun s12 => ?_)
  show jm_Sim _ 12 1479 97 [(0, .ref 59)] [.ref 71, .ref 59] 71 mr_139 s12 _ _
  refine jm_pr (pc := 97) (i := 59) (q := 71) d_Z_init_97 fp_Z_43 (fun _ => rfl) sh_59 ge_59 le_59_71 ge_71 rfl (fun _ => rfl) (fun _ => rfl) (fun _ _ _ => rfl) ?_
  refine jm_aload_n (pc := 100) (q := 0) (x := 59) d_Z_init_100 rfl ?_
  refine jm_iconst (pc := 101) (v := 3) d_Z_init_101 ci_3 ?_
  refine jm_nai (pc := 102) (N := 3) d_Z_init_102 ac_int (by decide) (by decide) (by decide) sh_72 (Nat.le_of_ble_eq_true rfl) (Nat.le_of_ble_eq_true rfl) (fun s13 => ?_)
  show jm_Sim _ 13 1482 104 [(0, .ref 59)] [.ref 72, .ref 59] 72 mr_141 s13 _ _
  refine jm_dup (pc := 104) d_Z_init_104 rfl ?_
  refine jm_iconst (pc := 105) (v := 0) d_Z_init_105 ci_0 ?_
  refine jm_bipush (pc := 106) (v := 100) d_Z_init_106 cb_100 ?_
  refine jm_iast (pc := 108) d_Z_init_108 sh_72 ge_72 le_72_72 (fun s14 => ?_)
  refine jm_dup (pc := 109) d_Z_init_109 rfl ?_
  refine jm_iconst (pc := 110) (v := 1) d_Z_init_110 ci_1 ?_
  refine jm_sipush (pc := 111) (v := 1000) d_Z_init_111 cs_1000 ?_
  refine jm_iast (pc := 114) d_Z_init_114 sh_72 ge_72 le_72_72 (fun s15 => ?_)
  refine jm_dup (pc := 115) d_Z_init_115 rfl ?_
  refine jm_iconst (pc := 116) (v := 2) d_Z_init_116 ci_2 ?_
  refine jm_bipush (pc := 117) (v := 100) d_Z_init_117 cb_100 ?_
  refine jm_iast (pc := 119) d_Z_init_119 sh_72 ge_72 le_72_72 (fun s16 => ?_)
  refine jm_pr (pc := 120) (i := 59) (q := 72) d_Z_init_120 fp_Z_46 (fun _ => rfl) sh_59 ge_59 le_59_72 ge_72 rfl (fun _ => rfl) (fun _ => rfl) (fun _ _ _ => rfl) ?_
  refine jm_aload_n (pc := 123) (q := 0) (x := 59) d_Z_init_123 rfl ?_
  refine jm_iconst (pc := 124) (v := 4) d_Z_init_124 ci_4 ?_
  refine jm_nai (pc := 125) (N := 4) d_Z_init_125 ac_int (by decide) (by decide) (by decide) sh_73 (Nat.le_of_ble_eq_true rfl) (Nat.le_of_ble_eq_true rfl) (fun s17 => ?_)
  show jm_Sim _ 14 1486 127 [(0, .ref 59)] [.ref 73, .ref 59] 73 mr_143 s17 _ _
  refine jm_pr (pc := 127) (i := 59) (q := 73) d_Z_init_127 fp_Z_49 (fun _ => rfl) sh_59 ge_59 le_59_73 ge_73 rfl (fun _ => rfl) (fun _ => rfl) (fun _ _ _ => rfl) ?_
  refine jm_aload_n (pc := 130) (q := 0) (x := 59) d_Z_init_130 rfl ?_
  refine jm_bipush (pc := 131) (v := 60) d_Z_init_131 cb_60 ?_
  refine jm_nai (pc := 133) (N := 60) d_Z_init_133 ac_int (by decide) (by decide) (by decide) sh_74 (Nat.le_of_ble_eq_true rfl) (Nat.le_of_ble_eq_true rfl) (fun s18 => ?_)
  show jm_Sim _ 15 1546 135 [(0, .ref 59)] [.ref 74, .ref 59] 74 mr_145 s18 _ _
  refine jm_pr (pc := 135) (i := 59) (q := 74) d_Z_init_135 fp_Z_52 (fun _ => rfl) sh_59 ge_59 le_59_74 ge_74 rfl (fun _ => rfl) (fun _ => rfl) (fun _ _ _ => rfl) ?_
  refine jm_aload_n (pc := 138) (q := 0) (x := 59) d_Z_init_138 rfl ?_
  refine jm_bipush (pc := 139) (v := 10) d_Z_init_139 cb_10 ?_
  refine jm_nai (pc := 141) (N := 10) d_Z_init_141 ac_int (by decide) (by decide) (by decide) sh_75 (Nat.le_of_ble_eq_true rfl) (Nat.le_of_ble_eq_true rfl) (fun s19 => ?_)
  show jm_Sim _ 16 1556 143 [(0, .ref 59)] [.ref 75, .ref 59] 75 mr_147 s19 _ _
  refine jm_pr (pc := 143) (i := 59) (q := 75) d_Z_init_143 fp_Z_55 (fun _ => rfl) sh_59 ge_59 le_59_75 ge_75 rfl (fun _ => rfl) (fun _ => rfl) (fun _ _ _ => rfl) ?_
  refine jm_aload_n (pc := 146) (q := 0) (x := 59) d_Z_init_146 rfl ?_
  refine jm_bipush (pc := 147) (v := 10) d_Z_init_147 cb_10 ?_
  refine jm_nai (pc := 149) (N := 10) d_Z_init_149 ac_int (by decide) (by decide) (by decide) sh_76 (Nat.le_of_ble_eq_true rfl) (Nat.le_of_ble_eq_true rfl) (fun s20 => ?_)
  show jm_Sim _ 17 1566 151 [(0, .ref 59)] [.ref 76, .ref 59] 76 mr_149 s20 _ _
  refine jm_pr (pc := 151) (i := 59) (q := 76) d_Z_init_151 fp_Z_58 (fun _ => rfl) sh_59 ge_59 le_59_76 ge_76 rfl (fun _ => rfl) (fun _ => rfl) (fun _ _ _ => rfl) ?_
  refine jm_aload_n (pc := 154) (q := 0) (x := 59) d_Z_init_154 rfl ?_
  refine jm_bipush (pc := 155) (v := 10) d_Z_init_155 cb_10 ?_
  refine jm_nai (pc := 157) (N := 10) d_Z_init_157 ac_int (by decide) (by decide) (by decide) sh_77 (Nat.le_of_ble_eq_true rfl) (Nat.le_of_ble_eq_true rfl) (fun s21 => ?_)
  show jm_Sim _ 18 1576 159 [(0, .ref 59)] [.ref 77, .ref 59] 77 mr_151 s21 _ _
  refine jm_pr (pc := 159) (i := 59) (q := 77) d_Z_init_159 fp_Z_61 (fun _ => rfl) sh_59 ge_59 le_59_77 ge_77 rfl (fun _ => rfl) (fun _ => rfl) (fun _ _ _ => rfl) ?_
  refine jm_aload_n (pc := 162) (q := 0) (x := 59) d_Z_init_162 rfl ?_
  refine jm_iconst (pc := 163) (v := 4) d_Z_init_163 ci_4 ?_
  refine jm_nai (pc := 164) (N := 4) d_Z_init_164 ac_int (by decide) (by decide) (by decide) sh_78 (Nat.le_of_ble_eq_true rfl) (Nat.le_of_ble_eq_true rfl) (fun s22 => ?_)
  show jm_Sim _ 19 1580 166 [(0, .ref 59)] [.ref 78, .ref 59] 78 mr_153 s22 _ _
  refine jm_pr (pc := 166) (i := 59) (q := 78) d_Z_init_166 fp_Z_64 (fun _ => rfl) sh_59 ge_59 le_59_78 ge_78 rfl (fun _ => rfl) (fun _ => rfl) (fun _ _ _ => rfl) ?_
  refine jm_iconst (pc := 169) (v := 0) d_Z_init_169 ci_0 ?_
  refine jm_istore_n (pc := 170) (i := 1) (L2 := [(1, .int 0), (0, .ref 59)]) d_Z_init_170 rfl (Nat.le_of_ble_eq_true rfl) rfl ?_
  refine jm_sub (L2 := [(0, .ref 59), (1, .int 0)]) [1, 0] rfl ?_
  exact s_Z_init_L171_ok 5000 0 s22
end
