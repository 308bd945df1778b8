-- ===== PART A: goes FIRST, ahead of the names: the tables' words, and 'selects' of the private methods out of them =====
/-- a private method of a class that the tables say can be made, by its rows of tables_1 -/
def lw_okq (q : MethodName × Nat) : Prop := (q.1.cls ≠ "java/lang/invoke/MethodHandle" ∧ q.1.cls ≠ "java/lang/invoke/VarHandle") ∧ Cond.instantiable q.1.cls q.2 ∈ tables_1 ∧ Cond.privateMethod q.1 ∈ tables_1 ∧ Cond.instanceMethod q.1 ∈ tables_1
theorem lw_p0 : lw_okq (⟨"MailCatch$Told", "restart", "()V"⟩, 8) := ⟨⟨by decide +kernel, by decide +kernel⟩, List.mem_of_getElem? (i := 27) (by decide +kernel), List.mem_of_getElem? (i := 33) (by decide +kernel), List.mem_of_getElem? (i := 34) (by decide +kernel)⟩
theorem lw_p1 : lw_okq (⟨"MailCatch$Tape", "add", "(I)Z"⟩, 5) := ⟨⟨by decide +kernel, by decide +kernel⟩, List.mem_of_getElem? (i := 89) (by decide +kernel), List.mem_of_getElem? (i := 284) (by decide +kernel), List.mem_of_getElem? (i := 285) (by decide +kernel)⟩
theorem lw_p2 : lw_okq (⟨"MailCatch$Reader", "start", "()V"⟩, 5) := ⟨⟨by decide +kernel, by decide +kernel⟩, List.mem_of_getElem? (i := 83) (by decide +kernel), List.mem_of_getElem? (i := 296) (by decide +kernel), List.mem_of_getElem? (i := 297) (by decide +kernel)⟩
theorem lw_p3 : lw_okq (⟨"MailCatch$Reader", "readLine", "()Z"⟩, 5) := ⟨⟨by decide +kernel, by decide +kernel⟩, List.mem_of_getElem? (i := 83) (by decide +kernel), List.mem_of_getElem? (i := 301) (by decide +kernel), List.mem_of_getElem? (i := 302) (by decide +kernel)⟩
theorem lw_p4 : lw_okq (⟨"MailCatch$Reader", "takeToken", "()Z"⟩, 5) := ⟨⟨by decide +kernel, by decide +kernel⟩, List.mem_of_getElem? (i := 83) (by decide +kernel), List.mem_of_getElem? (i := 305) (by decide +kernel), List.mem_of_getElem? (i := 306) (by decide +kernel)⟩
theorem lw_p5 : lw_okq (⟨"MailCatch$Tape", "readToken", "()V"⟩, 5) := ⟨⟨by decide +kernel, by decide +kernel⟩, List.mem_of_getElem? (i := 89) (by decide +kernel), List.mem_of_getElem? (i := 309) (by decide +kernel), List.mem_of_getElem? (i := 310) (by decide +kernel)⟩
theorem lw_p6 : lw_okq (⟨"MailCatch$Tape", "byteAt", "(I)I"⟩, 5) := ⟨⟨by decide +kernel, by decide +kernel⟩, List.mem_of_getElem? (i := 89) (by decide +kernel), List.mem_of_getElem? (i := 313) (by decide +kernel), List.mem_of_getElem? (i := 314) (by decide +kernel)⟩
theorem lw_p7 : lw_okq (⟨"MailCatch$Reader", "refuse", "(I)Z"⟩, 5) := ⟨⟨by decide +kernel, by decide +kernel⟩, List.mem_of_getElem? (i := 83) (by decide +kernel), List.mem_of_getElem? (i := 320) (by decide +kernel), List.mem_of_getElem? (i := 321) (by decide +kernel)⟩
theorem lw_p8 : lw_okq (⟨"MailCatch$Reader", "lineNamed", "()I"⟩, 5) := ⟨⟨by decide +kernel, by decide +kernel⟩, List.mem_of_getElem? (i := 83) (by decide +kernel), List.mem_of_getElem? (i := 324) (by decide +kernel), List.mem_of_getElem? (i := 325) (by decide +kernel)⟩
theorem lw_p9 : lw_okq (⟨"MailCatch$Tape", "isName", "(Ljava/lang/String;)Z"⟩, 5) := ⟨⟨by decide +kernel, by decide +kernel⟩, List.mem_of_getElem? (i := 89) (by decide +kernel), List.mem_of_getElem? (i := 329) (by decide +kernel), List.mem_of_getElem? (i := 330) (by decide +kernel)⟩
theorem lw_p10 : lw_okq (⟨"MailCatch$Told", "value", "(I)I"⟩, 8) := ⟨⟨by decide +kernel, by decide +kernel⟩, List.mem_of_getElem? (i := 27) (by decide +kernel), List.mem_of_getElem? (i := 394) (by decide +kernel), List.mem_of_getElem? (i := 395) (by decide +kernel)⟩
theorem lw_p11 : lw_okq (⟨"MailCatch$Reader", "readArm", "()Z"⟩, 5) := ⟨⟨by decide +kernel, by decide +kernel⟩, List.mem_of_getElem? (i := 83) (by decide +kernel), List.mem_of_getElem? (i := 404) (by decide +kernel), List.mem_of_getElem? (i := 405) (by decide +kernel)⟩
theorem lw_p12 : lw_okq (⟨"MailCatch$Reader", "kindNamed", "()I"⟩, 5) := ⟨⟨by decide +kernel, by decide +kernel⟩, List.mem_of_getElem? (i := 83) (by decide +kernel), List.mem_of_getElem? (i := 408) (by decide +kernel), List.mem_of_getElem? (i := 409) (by decide +kernel)⟩
theorem lw_p13 : lw_okq (⟨"MailCatch$Reader", "takeNumber", "(II)I"⟩, 5) := ⟨⟨by decide +kernel, by decide +kernel⟩, List.mem_of_getElem? (i := 83) (by decide +kernel), List.mem_of_getElem? (i := 417) (by decide +kernel), List.mem_of_getElem? (i := 418) (by decide +kernel)⟩
theorem lw_p14 : lw_okq (⟨"MailCatch$Tape", "numberRead", "()I"⟩, 5) := ⟨⟨by decide +kernel, by decide +kernel⟩, List.mem_of_getElem? (i := 89) (by decide +kernel), List.mem_of_getElem? (i := 421) (by decide +kernel), List.mem_of_getElem? (i := 422) (by decide +kernel)⟩
theorem lw_p15 : lw_okq (⟨"MailCatch$Told", "armAt", "(I)I"⟩, 8) := ⟨⟨by decide +kernel, by decide +kernel⟩, List.mem_of_getElem? (i := 27) (by decide +kernel), List.mem_of_getElem? (i := 425) (by decide +kernel), List.mem_of_getElem? (i := 426) (by decide +kernel)⟩
def lw_privs_1 : List (MethodName × Nat) := [(⟨"MailCatch$Told", "restart", "()V"⟩, 8), (⟨"MailCatch$Tape", "add", "(I)Z"⟩, 5), (⟨"MailCatch$Reader", "start", "()V"⟩, 5), (⟨"MailCatch$Reader", "readLine", "()Z"⟩, 5), (⟨"MailCatch$Reader", "takeToken", "()Z"⟩, 5), (⟨"MailCatch$Tape", "readToken", "()V"⟩, 5), (⟨"MailCatch$Tape", "byteAt", "(I)I"⟩, 5), (⟨"MailCatch$Reader", "refuse", "(I)Z"⟩, 5), (⟨"MailCatch$Reader", "lineNamed", "()I"⟩, 5), (⟨"MailCatch$Tape", "isName", "(Ljava/lang/String;)Z"⟩, 5), (⟨"MailCatch$Told", "value", "(I)I"⟩, 8), (⟨"MailCatch$Reader", "readArm", "()Z"⟩, 5), (⟨"MailCatch$Reader", "kindNamed", "()I"⟩, 5), (⟨"MailCatch$Reader", "takeNumber", "(II)I"⟩, 5), (⟨"MailCatch$Tape", "numberRead", "()I"⟩, 5), (⟨"MailCatch$Told", "armAt", "(I)I"⟩, 8)]
theorem lw_r1 : ∀ q ∈ lw_privs_1, lw_okq q := List.forall_mem_cons.mpr ⟨lw_p0, List.forall_mem_cons.mpr ⟨lw_p1, List.forall_mem_cons.mpr ⟨lw_p2, List.forall_mem_cons.mpr ⟨lw_p3, List.forall_mem_cons.mpr ⟨lw_p4, List.forall_mem_cons.mpr ⟨lw_p5, List.forall_mem_cons.mpr ⟨lw_p6, List.forall_mem_cons.mpr ⟨lw_p7, List.forall_mem_cons.mpr ⟨lw_p8, List.forall_mem_cons.mpr ⟨lw_p9, List.forall_mem_cons.mpr ⟨lw_p10, List.forall_mem_cons.mpr ⟨lw_p11, List.forall_mem_cons.mpr ⟨lw_p12, List.forall_mem_cons.mpr ⟨lw_p13, List.forall_mem_cons.mpr ⟨lw_p14, List.forall_mem_cons.mpr ⟨lw_p15, fun _ h => absurd h List.not_mem_nil⟩⟩⟩⟩⟩⟩⟩⟩⟩⟩⟩⟩⟩⟩⟩⟩
theorem lw_p16 : lw_okq (⟨"MailCatch$Told", "become", "(II)V"⟩, 8) := ⟨⟨by decide +kernel, by decide +kernel⟩, List.mem_of_getElem? (i := 27) (by decide +kernel), List.mem_of_getElem? (i := 433) (by decide +kernel), List.mem_of_getElem? (i := 434) (by decide +kernel)⟩
theorem lw_p17 : lw_okq (⟨"MailCatch$Reader", "takeSign", "()Z"⟩, 5) := ⟨⟨by decide +kernel, by decide +kernel⟩, List.mem_of_getElem? (i := 83) (by decide +kernel), List.mem_of_getElem? (i := 438) (by decide +kernel), List.mem_of_getElem? (i := 439) (by decide +kernel)⟩
theorem lw_p18 : lw_okq (⟨"MailCatch$Reader", "readMark", "()Z"⟩, 5) := ⟨⟨by decide +kernel, by decide +kernel⟩, List.mem_of_getElem? (i := 83) (by decide +kernel), List.mem_of_getElem? (i := 442) (by decide +kernel), List.mem_of_getElem? (i := 443) (by decide +kernel)⟩
theorem lw_p19 : lw_okq (⟨"MailCatch$Told", "markAt", "(I)I"⟩, 8) := ⟨⟨by decide +kernel, by decide +kernel⟩, List.mem_of_getElem? (i := 27) (by decide +kernel), List.mem_of_getElem? (i := 446) (by decide +kernel), List.mem_of_getElem? (i := 447) (by decide +kernel)⟩
theorem lw_p20 : lw_okq (⟨"MailCatch$Reader", "readTown", "()Z"⟩, 5) := ⟨⟨by decide +kernel, by decide +kernel⟩, List.mem_of_getElem? (i := 83) (by decide +kernel), List.mem_of_getElem? (i := 450) (by decide +kernel), List.mem_of_getElem? (i := 451) (by decide +kernel)⟩
theorem lw_p21 : lw_okq (⟨"MailCatch$Reader", "readSignal", "()Z"⟩, 5) := ⟨⟨by decide +kernel, by decide +kernel⟩, List.mem_of_getElem? (i := 83) (by decide +kernel), List.mem_of_getElem? (i := 454) (by decide +kernel), List.mem_of_getElem? (i := 455) (by decide +kernel)⟩
theorem lw_p22 : lw_okq (⟨"MailCatch$Told", "isSignalAt", "(I)Z"⟩, 8) := ⟨⟨by decide +kernel, by decide +kernel⟩, List.mem_of_getElem? (i := 27) (by decide +kernel), List.mem_of_getElem? (i := 458) (by decide +kernel), List.mem_of_getElem? (i := 459) (by decide +kernel)⟩
theorem lw_p23 : lw_okq (⟨"MailCatch$Reader", "readRule", "(I)Z"⟩, 5) := ⟨⟨by decide +kernel, by decide +kernel⟩, List.mem_of_getElem? (i := 83) (by decide +kernel), List.mem_of_getElem? (i := 462) (by decide +kernel), List.mem_of_getElem? (i := 463) (by decide +kernel)⟩
theorem lw_p24 : lw_okq (⟨"MailCatch$Reader", "finish", "()V"⟩, 5) := ⟨⟨by decide +kernel, by decide +kernel⟩, List.mem_of_getElem? (i := 83) (by decide +kernel), List.mem_of_getElem? (i := 468) (by decide +kernel), List.mem_of_getElem? (i := 469) (by decide +kernel)⟩
theorem lw_p25 : lw_okq (⟨"MailCatch$Reader", "isJointMissing", "()Z"⟩, 5) := ⟨⟨by decide +kernel, by decide +kernel⟩, List.mem_of_getElem? (i := 83) (by decide +kernel), List.mem_of_getElem? (i := 472) (by decide +kernel), List.mem_of_getElem? (i := 473) (by decide +kernel)⟩
theorem lw_p26 : lw_okq (⟨"MailCatch$Told", "take", "(LMailCatch$Told;)V"⟩, 8) := ⟨⟨by decide +kernel, by decide +kernel⟩, List.mem_of_getElem? (i := 27) (by decide +kernel), List.mem_of_getElem? (i := 476) (by decide +kernel), List.mem_of_getElem? (i := 477) (by decide +kernel)⟩
theorem lw_p27 : lw_okq (⟨"MailCatch", "isArm", "(I)Z"⟩, 13) := ⟨⟨by decide +kernel, by decide +kernel⟩, List.mem_of_getElem? (i := 19) (by decide +kernel), List.mem_of_getElem? (i := 493) (by decide +kernel), List.mem_of_getElem? (i := 494) (by decide +kernel)⟩
theorem lw_p28 : lw_okq (⟨"MailCatch$Told", "holdsOf", "(II)I"⟩, 8) := ⟨⟨by decide +kernel, by decide +kernel⟩, List.mem_of_getElem? (i := 27) (by decide +kernel), List.mem_of_getElem? (i := 498) (by decide +kernel), List.mem_of_getElem? (i := 499) (by decide +kernel)⟩
theorem lw_p29 : lw_okq (⟨"MailCatch", "isMark", "(I)Z"⟩, 13) := ⟨⟨by decide +kernel, by decide +kernel⟩, List.mem_of_getElem? (i := 19) (by decide +kernel), List.mem_of_getElem? (i := 509) (by decide +kernel), List.mem_of_getElem? (i := 510) (by decide +kernel)⟩
theorem lw_p30 : lw_okq (⟨"MailCatch", "isTown", "(I)Z"⟩, 13) := ⟨⟨by decide +kernel, by decide +kernel⟩, List.mem_of_getElem? (i := 19) (by decide +kernel), List.mem_of_getElem? (i := 520) (by decide +kernel), List.mem_of_getElem? (i := 521) (by decide +kernel)⟩
theorem lw_p31 : lw_okq (⟨"MailCatch", "isJoint", "(I)Z"⟩, 13) := ⟨⟨by decide +kernel, by decide +kernel⟩, List.mem_of_getElem? (i := 19) (by decide +kernel), List.mem_of_getElem? (i := 542) (by decide +kernel), List.mem_of_getElem? (i := 543) (by decide +kernel)⟩
def lw_privs_2 : List (MethodName × Nat) := [(⟨"MailCatch$Told", "become", "(II)V"⟩, 8), (⟨"MailCatch$Reader", "takeSign", "()Z"⟩, 5), (⟨"MailCatch$Reader", "readMark", "()Z"⟩, 5), (⟨"MailCatch$Told", "markAt", "(I)I"⟩, 8), (⟨"MailCatch$Reader", "readTown", "()Z"⟩, 5), (⟨"MailCatch$Reader", "readSignal", "()Z"⟩, 5), (⟨"MailCatch$Told", "isSignalAt", "(I)Z"⟩, 8), (⟨"MailCatch$Reader", "readRule", "(I)Z"⟩, 5), (⟨"MailCatch$Reader", "finish", "()V"⟩, 5), (⟨"MailCatch$Reader", "isJointMissing", "()Z"⟩, 5), (⟨"MailCatch$Told", "take", "(LMailCatch$Told;)V"⟩, 8), (⟨"MailCatch", "isArm", "(I)Z"⟩, 13), (⟨"MailCatch$Told", "holdsOf", "(II)I"⟩, 8), (⟨"MailCatch", "isMark", "(I)Z"⟩, 13), (⟨"MailCatch", "isTown", "(I)Z"⟩, 13), (⟨"MailCatch", "isJoint", "(I)Z"⟩, 13)]
theorem lw_r2 : ∀ q ∈ lw_privs_2, lw_okq q := List.forall_mem_cons.mpr ⟨lw_p16, List.forall_mem_cons.mpr ⟨lw_p17, List.forall_mem_cons.mpr ⟨lw_p18, List.forall_mem_cons.mpr ⟨lw_p19, List.forall_mem_cons.mpr ⟨lw_p20, List.forall_mem_cons.mpr ⟨lw_p21, List.forall_mem_cons.mpr ⟨lw_p22, List.forall_mem_cons.mpr ⟨lw_p23, List.forall_mem_cons.mpr ⟨lw_p24, List.forall_mem_cons.mpr ⟨lw_p25, List.forall_mem_cons.mpr ⟨lw_p26, List.forall_mem_cons.mpr ⟨lw_p27, List.forall_mem_cons.mpr ⟨lw_p28, List.forall_mem_cons.mpr ⟨lw_p29, List.forall_mem_cons.mpr ⟨lw_p30, List.forall_mem_cons.mpr ⟨lw_p31, fun _ h => absurd h List.not_mem_nil⟩⟩⟩⟩⟩⟩⟩⟩⟩⟩⟩⟩⟩⟩⟩⟩
theorem lw_p32 : lw_okq (⟨"MailCatch", "postedTo", "([III)I"⟩, 13) := ⟨⟨by decide +kernel, by decide +kernel⟩, List.mem_of_getElem? (i := 19) (by decide +kernel), List.mem_of_getElem? (i := 563) (by decide +kernel), List.mem_of_getElem? (i := 564) (by decide +kernel)⟩
theorem lw_p33 : lw_okq (⟨"MailCatch", "areJoints", "(I)Z"⟩, 13) := ⟨⟨by decide +kernel, by decide +kernel⟩, List.mem_of_getElem? (i := 19) (by decide +kernel), List.mem_of_getElem? (i := 571) (by decide +kernel), List.mem_of_getElem? (i := 572) (by decide +kernel)⟩
theorem lw_p34 : lw_okq (⟨"MailCatch", "areMarks", "(I)Z"⟩, 13) := ⟨⟨by decide +kernel, by decide +kernel⟩, List.mem_of_getElem? (i := 19) (by decide +kernel), List.mem_of_getElem? (i := 575) (by decide +kernel), List.mem_of_getElem? (i := 576) (by decide +kernel)⟩
theorem lw_p35 : lw_okq (⟨"MailCatch$Passage", "go", "(LMailCatch$Told;II)V"⟩, 6) := ⟨⟨by decide +kernel, by decide +kernel⟩, List.mem_of_getElem? (i := 139) (by decide +kernel), List.mem_of_getElem? (i := 582) (by decide +kernel), List.mem_of_getElem? (i := 583) (by decide +kernel)⟩
theorem lw_p36 : lw_okq (⟨"MailCatch$Told", "countBehind", "(IIII)I"⟩, 8) := ⟨⟨by decide +kernel, by decide +kernel⟩, List.mem_of_getElem? (i := 27) (by decide +kernel), List.mem_of_getElem? (i := 587) (by decide +kernel), List.mem_of_getElem? (i := 588) (by decide +kernel)⟩
theorem lw_p37 : lw_okq (⟨"MailCatch$Passage", "meet", "(LMailCatch$Told;I)V"⟩, 6) := ⟨⟨by decide +kernel, by decide +kernel⟩, List.mem_of_getElem? (i := 139) (by decide +kernel), List.mem_of_getElem? (i := 592) (by decide +kernel), List.mem_of_getElem? (i := 593) (by decide +kernel)⟩
theorem lw_p38 : lw_okq (⟨"MailCatch$Passage", "answer", "(I)I"⟩, 6) := ⟨⟨by decide +kernel, by decide +kernel⟩, List.mem_of_getElem? (i := 139) (by decide +kernel), List.mem_of_getElem? (i := 598) (by decide +kernel), List.mem_of_getElem? (i := 599) (by decide +kernel)⟩
theorem lw_p39 : lw_okq (⟨"MailCatch$Odds", "weighByOdds", "(LMailCatch$Told;II)V"⟩, 10) := ⟨⟨by decide +kernel, by decide +kernel⟩, List.mem_of_getElem? (i := 164) (by decide +kernel), List.mem_of_getElem? (i := 612) (by decide +kernel), List.mem_of_getElem? (i := 613) (by decide +kernel)⟩
theorem lw_p40 : lw_okq (⟨"MailCatch$Odds", "sumBehind", "()V"⟩, 10) := ⟨⟨by decide +kernel, by decide +kernel⟩, List.mem_of_getElem? (i := 164) (by decide +kernel), List.mem_of_getElem? (i := 622) (by decide +kernel), List.mem_of_getElem? (i := 623) (by decide +kernel)⟩
theorem lw_p41 : lw_okq (⟨"MailCatch$Odds", "passCounting", "(I)V"⟩, 10) := ⟨⟨by decide +kernel, by decide +kernel⟩, List.mem_of_getElem? (i := 164) (by decide +kernel), List.mem_of_getElem? (i := 629) (by decide +kernel), List.mem_of_getElem? (i := 630) (by decide +kernel)⟩
theorem lw_p42 : lw_okq (⟨"MailCatch$Odds", "start", "()V"⟩, 10) := ⟨⟨by decide +kernel, by decide +kernel⟩, List.mem_of_getElem? (i := 164) (by decide +kernel), List.mem_of_getElem? (i := 633) (by decide +kernel), List.mem_of_getElem? (i := 634) (by decide +kernel)⟩
theorem lw_p43 : lw_okq (⟨"MailCatch$Odds", "passJoint", "([JI)V"⟩, 10) := ⟨⟨by decide +kernel, by decide +kernel⟩, List.mem_of_getElem? (i := 164) (by decide +kernel), List.mem_of_getElem? (i := 640) (by decide +kernel), List.mem_of_getElem? (i := 641) (by decide +kernel)⟩
theorem lw_p44 : lw_okq (⟨"MailCatch$Odds", "ofCount", "(II)J"⟩, 10) := ⟨⟨by decide +kernel, by decide +kernel⟩, List.mem_of_getElem? (i := 164) (by decide +kernel), List.mem_of_getElem? (i := 644) (by decide +kernel), List.mem_of_getElem? (i := 645) (by decide +kernel)⟩
theorem lw_p45 : lw_okq (⟨"MailCatch$Odds", "whole", "()J"⟩, 10) := ⟨⟨by decide +kernel, by decide +kernel⟩, List.mem_of_getElem? (i := 164) (by decide +kernel), List.mem_of_getElem? (i := 651) (by decide +kernel), List.mem_of_getElem? (i := 652) (by decide +kernel)⟩
theorem lw_p46 : lw_okq (⟨"MailCatch", "passByOdds", "()V"⟩, 13) := ⟨⟨by decide +kernel, by decide +kernel⟩, List.mem_of_getElem? (i := 19) (by decide +kernel), List.mem_of_getElem? (i := 671) (by decide +kernel), List.mem_of_getElem? (i := 672) (by decide +kernel)⟩
theorem lw_p47 : lw_okq (⟨"MailCatch$Odds", "passWithNet", "(III)V"⟩, 10) := ⟨⟨by decide +kernel, by decide +kernel⟩, List.mem_of_getElem? (i := 164) (by decide +kernel), List.mem_of_getElem? (i := 675) (by decide +kernel), List.mem_of_getElem? (i := 676) (by decide +kernel)⟩
def lw_privs_3 : List (MethodName × Nat) := [(⟨"MailCatch", "postedTo", "([III)I"⟩, 13), (⟨"MailCatch", "areJoints", "(I)Z"⟩, 13), (⟨"MailCatch", "areMarks", "(I)Z"⟩, 13), (⟨"MailCatch$Passage", "go", "(LMailCatch$Told;II)V"⟩, 6), (⟨"MailCatch$Told", "countBehind", "(IIII)I"⟩, 8), (⟨"MailCatch$Passage", "meet", "(LMailCatch$Told;I)V"⟩, 6), (⟨"MailCatch$Passage", "answer", "(I)I"⟩, 6), (⟨"MailCatch$Odds", "weighByOdds", "(LMailCatch$Told;II)V"⟩, 10), (⟨"MailCatch$Odds", "sumBehind", "()V"⟩, 10), (⟨"MailCatch$Odds", "passCounting", "(I)V"⟩, 10), (⟨"MailCatch$Odds", "start", "()V"⟩, 10), (⟨"MailCatch$Odds", "passJoint", "([JI)V"⟩, 10), (⟨"MailCatch$Odds", "ofCount", "(II)J"⟩, 10), (⟨"MailCatch$Odds", "whole", "()J"⟩, 10), (⟨"MailCatch", "passByOdds", "()V"⟩, 13), (⟨"MailCatch$Odds", "passWithNet", "(III)V"⟩, 10)]
theorem lw_r3 : ∀ q ∈ lw_privs_3, lw_okq q := List.forall_mem_cons.mpr ⟨lw_p32, List.forall_mem_cons.mpr ⟨lw_p33, List.forall_mem_cons.mpr ⟨lw_p34, List.forall_mem_cons.mpr ⟨lw_p35, List.forall_mem_cons.mpr ⟨lw_p36, List.forall_mem_cons.mpr ⟨lw_p37, List.forall_mem_cons.mpr ⟨lw_p38, List.forall_mem_cons.mpr ⟨lw_p39, List.forall_mem_cons.mpr ⟨lw_p40, List.forall_mem_cons.mpr ⟨lw_p41, List.forall_mem_cons.mpr ⟨lw_p42, List.forall_mem_cons.mpr ⟨lw_p43, List.forall_mem_cons.mpr ⟨lw_p44, List.forall_mem_cons.mpr ⟨lw_p45, List.forall_mem_cons.mpr ⟨lw_p46, List.forall_mem_cons.mpr ⟨lw_p47, fun _ h => absurd h List.not_mem_nil⟩⟩⟩⟩⟩⟩⟩⟩⟩⟩⟩⟩⟩⟩⟩⟩
theorem lw_p48 : lw_okq (⟨"MailCatch$Odds", "takeIn", "(I)V"⟩, 10) := ⟨⟨by decide +kernel, by decide +kernel⟩, List.mem_of_getElem? (i := 164) (by decide +kernel), List.mem_of_getElem? (i := 679) (by decide +kernel), List.mem_of_getElem? (i := 680) (by decide +kernel)⟩
theorem lw_p49 : lw_okq (⟨"MailCatch$Odds", "putOut", "(I)J"⟩, 10) := ⟨⟨by decide +kernel, by decide +kernel⟩, List.mem_of_getElem? (i := 164) (by decide +kernel), List.mem_of_getElem? (i := 684) (by decide +kernel), List.mem_of_getElem? (i := 685) (by decide +kernel)⟩
theorem lw_p50 : lw_okq (⟨"MailCatch", "metBy", "(I)J"⟩, 13) := ⟨⟨by decide +kernel, by decide +kernel⟩, List.mem_of_getElem? (i := 19) (by decide +kernel), List.mem_of_getElem? (i := 700) (by decide +kernel), List.mem_of_getElem? (i := 701) (by decide +kernel)⟩
theorem lw_p51 : lw_okq (⟨"MailCatch", "hitByOdds", "()J"⟩, 13) := ⟨⟨by decide +kernel, by decide +kernel⟩, List.mem_of_getElem? (i := 19) (by decide +kernel), List.mem_of_getElem? (i := 709) (by decide +kernel), List.mem_of_getElem? (i := 710) (by decide +kernel)⟩
theorem lw_p52 : lw_okq (⟨"MailCatch", "tornByOdds", "()J"⟩, 13) := ⟨⟨by decide +kernel, by decide +kernel⟩, List.mem_of_getElem? (i := 19) (by decide +kernel), List.mem_of_getElem? (i := 718) (by decide +kernel), List.mem_of_getElem? (i := 719) (by decide +kernel)⟩
theorem lw_p53 : lw_okq (⟨"MailCatch", "worthByOdds", "()J"⟩, 13) := ⟨⟨by decide +kernel, by decide +kernel⟩, List.mem_of_getElem? (i := 19) (by decide +kernel), List.mem_of_getElem? (i := 726) (by decide +kernel), List.mem_of_getElem? (i := 727) (by decide +kernel)⟩
theorem lw_p54 : lw_okq (⟨"MailCatch", "isHadBy", "(IIII)Z"⟩, 13) := ⟨⟨by decide +kernel, by decide +kernel⟩, List.mem_of_getElem? (i := 19) (by decide +kernel), List.mem_of_getElem? (i := 738) (by decide +kernel), List.mem_of_getElem? (i := 739) (by decide +kernel)⟩
theorem lw_p55 : lw_okq (⟨"MailCatch$Told", "lettersWorth", "(I)I"⟩, 8) := ⟨⟨by decide +kernel, by decide +kernel⟩, List.mem_of_getElem? (i := 27) (by decide +kernel), List.mem_of_getElem? (i := 754) (by decide +kernel), List.mem_of_getElem? (i := 755) (by decide +kernel)⟩
theorem lw_p56 : lw_okq (⟨"MailCatch$Told", "minutesOf", "(II)I"⟩, 8) := ⟨⟨by decide +kernel, by decide +kernel⟩, List.mem_of_getElem? (i := 27) (by decide +kernel), List.mem_of_getElem? (i := 758) (by decide +kernel), List.mem_of_getElem? (i := 759) (by decide +kernel)⟩
theorem lw_p57 : lw_okq (⟨"MailCatch", "areTowns", "(I)Z"⟩, 13) := ⟨⟨by decide +kernel, by decide +kernel⟩, List.mem_of_getElem? (i := 19) (by decide +kernel), List.mem_of_getElem? (i := 766) (by decide +kernel), List.mem_of_getElem? (i := 767) (by decide +kernel)⟩
theorem lw_p58 : lw_okq (⟨"MailCatch$Seen", "add", "(II)Z"⟩, 3) := ⟨⟨by decide +kernel, by decide +kernel⟩, List.mem_of_getElem? (i := 204) (by decide +kernel), List.mem_of_getElem? (i := 778) (by decide +kernel), List.mem_of_getElem? (i := 779) (by decide +kernel)⟩
theorem lw_p59 : lw_okq (⟨"MailCatch$Odds", "weighAlike", "(LMailCatch$Told;)V"⟩, 10) := ⟨⟨by decide +kernel, by decide +kernel⟩, List.mem_of_getElem? (i := 164) (by decide +kernel), List.mem_of_getElem? (i := 791) (by decide +kernel), List.mem_of_getElem? (i := 792) (by decide +kernel)⟩
theorem lw_p60 : lw_okq (⟨"MailCatch$Odds", "passAsSeen", "(LMailCatch$Seen;)J"⟩, 10) := ⟨⟨by decide +kernel, by decide +kernel⟩, List.mem_of_getElem? (i := 164) (by decide +kernel), List.mem_of_getElem? (i := 795) (by decide +kernel), List.mem_of_getElem? (i := 796) (by decide +kernel)⟩
theorem lw_p61 : lw_okq (⟨"MailCatch$Seen", "leaveIn", "([JI)V"⟩, 3) := ⟨⟨by decide +kernel, by decide +kernel⟩, List.mem_of_getElem? (i := 204) (by decide +kernel), List.mem_of_getElem? (i := 799) (by decide +kernel), List.mem_of_getElem? (i := 800) (by decide +kernel)⟩
theorem lw_p62 : lw_okq (⟨"MailCatch", "jointsMissed", "(Z)I"⟩, 13) := ⟨⟨by decide +kernel, by decide +kernel⟩, List.mem_of_getElem? (i := 19) (by decide +kernel), List.mem_of_getElem? (i := 807) (by decide +kernel), List.mem_of_getElem? (i := 808) (by decide +kernel)⟩
theorem lw_p63 : lw_okq (⟨"MailCatch$Odds", "forceMiss", "(IZ)V"⟩, 10) := ⟨⟨by decide +kernel, by decide +kernel⟩, List.mem_of_getElem? (i := 164) (by decide +kernel), List.mem_of_getElem? (i := 811) (by decide +kernel), List.mem_of_getElem? (i := 812) (by decide +kernel)⟩
def lw_privs_4 : List (MethodName × Nat) := [(⟨"MailCatch$Odds", "takeIn", "(I)V"⟩, 10), (⟨"MailCatch$Odds", "putOut", "(I)J"⟩, 10), (⟨"MailCatch", "metBy", "(I)J"⟩, 13), (⟨"MailCatch", "hitByOdds", "()J"⟩, 13), (⟨"MailCatch", "tornByOdds", "()J"⟩, 13), (⟨"MailCatch", "worthByOdds", "()J"⟩, 13), (⟨"MailCatch", "isHadBy", "(IIII)Z"⟩, 13), (⟨"MailCatch$Told", "lettersWorth", "(I)I"⟩, 8), (⟨"MailCatch$Told", "minutesOf", "(II)I"⟩, 8), (⟨"MailCatch", "areTowns", "(I)Z"⟩, 13), (⟨"MailCatch$Seen", "add", "(II)Z"⟩, 3), (⟨"MailCatch$Odds", "weighAlike", "(LMailCatch$Told;)V"⟩, 10), (⟨"MailCatch$Odds", "passAsSeen", "(LMailCatch$Seen;)J"⟩, 10), (⟨"MailCatch$Seen", "leaveIn", "([JI)V"⟩, 3), (⟨"MailCatch", "jointsMissed", "(Z)I"⟩, 13), (⟨"MailCatch$Odds", "forceMiss", "(IZ)V"⟩, 10)]
theorem lw_r4 : ∀ q ∈ lw_privs_4, lw_okq q := List.forall_mem_cons.mpr ⟨lw_p48, List.forall_mem_cons.mpr ⟨lw_p49, List.forall_mem_cons.mpr ⟨lw_p50, List.forall_mem_cons.mpr ⟨lw_p51, List.forall_mem_cons.mpr ⟨lw_p52, List.forall_mem_cons.mpr ⟨lw_p53, List.forall_mem_cons.mpr ⟨lw_p54, List.forall_mem_cons.mpr ⟨lw_p55, List.forall_mem_cons.mpr ⟨lw_p56, List.forall_mem_cons.mpr ⟨lw_p57, List.forall_mem_cons.mpr ⟨lw_p58, List.forall_mem_cons.mpr ⟨lw_p59, List.forall_mem_cons.mpr ⟨lw_p60, List.forall_mem_cons.mpr ⟨lw_p61, List.forall_mem_cons.mpr ⟨lw_p62, List.forall_mem_cons.mpr ⟨lw_p63, fun _ h => absurd h List.not_mem_nil⟩⟩⟩⟩⟩⟩⟩⟩⟩⟩⟩⟩⟩⟩⟩⟩
theorem lw_p64 : lw_okq (⟨"MailCatch", "marksNoticed", "(Z)I"⟩, 13) := ⟨⟨by decide +kernel, by decide +kernel⟩, List.mem_of_getElem? (i := 19) (by decide +kernel), List.mem_of_getElem? (i := 815) (by decide +kernel), List.mem_of_getElem? (i := 816) (by decide +kernel)⟩
theorem lw_p65 : lw_okq (⟨"MailCatch$Odds", "forceNotice", "(IZ)V"⟩, 10) := ⟨⟨by decide +kernel, by decide +kernel⟩, List.mem_of_getElem? (i := 164) (by decide +kernel), List.mem_of_getElem? (i := 819) (by decide +kernel), List.mem_of_getElem? (i := 820) (by decide +kernel)⟩
theorem lw_p66 : lw_okq (⟨"MailCatch", "imageOf", "(I)LMailCatch$Told;"⟩, 13) := ⟨⟨by decide +kernel, by decide +kernel⟩, List.mem_of_getElem? (i := 19) (by decide +kernel), List.mem_of_getElem? (i := 845) (by decide +kernel), List.mem_of_getElem? (i := 846) (by decide +kernel)⟩
theorem lw_p67 : lw_okq (⟨"MailCatch$Sheets", "renew", "(III)V"⟩, 4) := ⟨⟨by decide +kernel, by decide +kernel⟩, List.mem_of_getElem? (i := 221) (by decide +kernel), List.mem_of_getElem? (i := 863) (by decide +kernel), List.mem_of_getElem? (i := 864) (by decide +kernel)⟩
theorem lw_p68 : lw_okq (⟨"MailCatch$Sheets", "faultOfCell", "(II)I"⟩, 4) := ⟨⟨by decide +kernel, by decide +kernel⟩, List.mem_of_getElem? (i := 221) (by decide +kernel), List.mem_of_getElem? (i := 872) (by decide +kernel), List.mem_of_getElem? (i := 873) (by decide +kernel)⟩
theorem lw_p69 : lw_okq (⟨"MailCatch$Sheets", "write", "(III)V"⟩, 4) := ⟨⟨by decide +kernel, by decide +kernel⟩, List.mem_of_getElem? (i := 221) (by decide +kernel), List.mem_of_getElem? (i := 877) (by decide +kernel), List.mem_of_getElem? (i := 878) (by decide +kernel)⟩
theorem lw_p70 : lw_okq (⟨"MailCatch$Sheets", "faultOfLane", "(II)I"⟩, 4) := ⟨⟨by decide +kernel, by decide +kernel⟩, List.mem_of_getElem? (i := 221) (by decide +kernel), List.mem_of_getElem? (i := 885) (by decide +kernel), List.mem_of_getElem? (i := 886) (by decide +kernel)⟩
theorem lw_p71 : lw_okq (⟨"MailCatch$Sheets", "faultOfPair", "(II)I"⟩, 4) := ⟨⟨by decide +kernel, by decide +kernel⟩, List.mem_of_getElem? (i := 221) (by decide +kernel), List.mem_of_getElem? (i := 890) (by decide +kernel), List.mem_of_getElem? (i := 891) (by decide +kernel)⟩
theorem lw_p72 : lw_okq (⟨"MailCatch$Sheets", "cell", "(II)I"⟩, 4) := ⟨⟨by decide +kernel, by decide +kernel⟩, List.mem_of_getElem? (i := 221) (by decide +kernel), List.mem_of_getElem? (i := 895) (by decide +kernel), List.mem_of_getElem? (i := 896) (by decide +kernel)⟩
theorem lw_p73 : lw_okq (⟨"MailCatch$Sheets", "cellsOf", "(I)I"⟩, 4) := ⟨⟨by decide +kernel, by decide +kernel⟩, List.mem_of_getElem? (i := 221) (by decide +kernel), List.mem_of_getElem? (i := 913) (by decide +kernel), List.mem_of_getElem? (i := 914) (by decide +kernel)⟩
theorem lw_p74 : lw_okq (⟨"MailCatch$Told", "allLetters", "()I"⟩, 8) := ⟨⟨by decide +kernel, by decide +kernel⟩, List.mem_of_getElem? (i := 27) (by decide +kernel), List.mem_of_getElem? (i := 917) (by decide +kernel), List.mem_of_getElem? (i := 918) (by decide +kernel)⟩
theorem lw_p75 : lw_okq (⟨"MailCatchModel", "begins", "()V"⟩, 47) := ⟨⟨by decide +kernel, by decide +kernel⟩, List.mem_of_getElem? (i := 921) (by decide +kernel), List.mem_of_getElem? (i := 1086) (by decide +kernel), List.mem_of_getElem? (i := 1087) (by decide +kernel)⟩
theorem lw_p76 : lw_okq (⟨"MailCatchModel", "step", "()V"⟩, 47) := ⟨⟨by decide +kernel, by decide +kernel⟩, List.mem_of_getElem? (i := 921) (by decide +kernel), List.mem_of_getElem? (i := 1090) (by decide +kernel), List.mem_of_getElem? (i := 1091) (by decide +kernel)⟩
theorem lw_p77 : lw_okq (⟨"MailCatchModel", "byteAt", "(I)I"⟩, 47) := ⟨⟨by decide +kernel, by decide +kernel⟩, List.mem_of_getElem? (i := 921) (by decide +kernel), List.mem_of_getElem? (i := 1094) (by decide +kernel), List.mem_of_getElem? (i := 1095) (by decide +kernel)⟩
theorem lw_p78 : lw_okq (⟨"MailCatchModel", "fails", "(I)V"⟩, 47) := ⟨⟨by decide +kernel, by decide +kernel⟩, List.mem_of_getElem? (i := 921) (by decide +kernel), List.mem_of_getElem? (i := 1102) (by decide +kernel), List.mem_of_getElem? (i := 1103) (by decide +kernel)⟩
theorem lw_p79 : lw_okq (⟨"MailCatchModel", "readLine", "()V"⟩, 47) := ⟨⟨by decide +kernel, by decide +kernel⟩, List.mem_of_getElem? (i := 921) (by decide +kernel), List.mem_of_getElem? (i := 1106) (by decide +kernel), List.mem_of_getElem? (i := 1107) (by decide +kernel)⟩
def lw_privs_5 : List (MethodName × Nat) := [(⟨"MailCatch", "marksNoticed", "(Z)I"⟩, 13), (⟨"MailCatch$Odds", "forceNotice", "(IZ)V"⟩, 10), (⟨"MailCatch", "imageOf", "(I)LMailCatch$Told;"⟩, 13), (⟨"MailCatch$Sheets", "renew", "(III)V"⟩, 4), (⟨"MailCatch$Sheets", "faultOfCell", "(II)I"⟩, 4), (⟨"MailCatch$Sheets", "write", "(III)V"⟩, 4), (⟨"MailCatch$Sheets", "faultOfLane", "(II)I"⟩, 4), (⟨"MailCatch$Sheets", "faultOfPair", "(II)I"⟩, 4), (⟨"MailCatch$Sheets", "cell", "(II)I"⟩, 4), (⟨"MailCatch$Sheets", "cellsOf", "(I)I"⟩, 4), (⟨"MailCatch$Told", "allLetters", "()I"⟩, 8), (⟨"MailCatchModel", "begins", "()V"⟩, 47), (⟨"MailCatchModel", "step", "()V"⟩, 47), (⟨"MailCatchModel", "byteAt", "(I)I"⟩, 47), (⟨"MailCatchModel", "fails", "(I)V"⟩, 47), (⟨"MailCatchModel", "readLine", "()V"⟩, 47)]
theorem lw_r5 : ∀ q ∈ lw_privs_5, lw_okq q := List.forall_mem_cons.mpr ⟨lw_p64, List.forall_mem_cons.mpr ⟨lw_p65, List.forall_mem_cons.mpr ⟨lw_p66, List.forall_mem_cons.mpr ⟨lw_p67, List.forall_mem_cons.mpr ⟨lw_p68, List.forall_mem_cons.mpr ⟨lw_p69, List.forall_mem_cons.mpr ⟨lw_p70, List.forall_mem_cons.mpr ⟨lw_p71, List.forall_mem_cons.mpr ⟨lw_p72, List.forall_mem_cons.mpr ⟨lw_p73, List.forall_mem_cons.mpr ⟨lw_p74, List.forall_mem_cons.mpr ⟨lw_p75, List.forall_mem_cons.mpr ⟨lw_p76, List.forall_mem_cons.mpr ⟨lw_p77, List.forall_mem_cons.mpr ⟨lw_p78, List.forall_mem_cons.mpr ⟨lw_p79, fun _ h => absurd h List.not_mem_nil⟩⟩⟩⟩⟩⟩⟩⟩⟩⟩⟩⟩⟩⟩⟩⟩
theorem lw_p80 : lw_okq (⟨"MailCatchModel", "nameHere", "()I"⟩, 47) := ⟨⟨by decide +kernel, by decide +kernel⟩, List.mem_of_getElem? (i := 921) (by decide +kernel), List.mem_of_getElem? (i := 1110) (by decide +kernel), List.mem_of_getElem? (i := 1111) (by decide +kernel)⟩
theorem lw_p81 : lw_okq (⟨"MailCatchModel", "readOnce", "(I)V"⟩, 47) := ⟨⟨by decide +kernel, by decide +kernel⟩, List.mem_of_getElem? (i := 921) (by decide +kernel), List.mem_of_getElem? (i := 1115) (by decide +kernel), List.mem_of_getElem? (i := 1116) (by decide +kernel)⟩
theorem lw_p82 : lw_okq (⟨"MailCatchModel", "number", "(II)I"⟩, 47) := ⟨⟨by decide +kernel, by decide +kernel⟩, List.mem_of_getElem? (i := 921) (by decide +kernel), List.mem_of_getElem? (i := 1119) (by decide +kernel), List.mem_of_getElem? (i := 1120) (by decide +kernel)⟩
theorem lw_p83 : lw_okq (⟨"MailCatchModel", "jointHere", "(I)I"⟩, 47) := ⟨⟨by decide +kernel, by decide +kernel⟩, List.mem_of_getElem? (i := 921) (by decide +kernel), List.mem_of_getElem? (i := 1123) (by decide +kernel), List.mem_of_getElem? (i := 1124) (by decide +kernel)⟩
theorem lw_p84 : lw_okq (⟨"MailCatchModel", "readMore", "(I)V"⟩, 47) := ⟨⟨by decide +kernel, by decide +kernel⟩, List.mem_of_getElem? (i := 921) (by decide +kernel), List.mem_of_getElem? (i := 1127) (by decide +kernel), List.mem_of_getElem? (i := 1128) (by decide +kernel)⟩
theorem lw_p85 : lw_okq (⟨"MailCatchModel", "slip", "()I"⟩, 47) := ⟨⟨by decide +kernel, by decide +kernel⟩, List.mem_of_getElem? (i := 921) (by decide +kernel), List.mem_of_getElem? (i := 1139) (by decide +kernel), List.mem_of_getElem? (i := 1140) (by decide +kernel)⟩
theorem lw_p86 : lw_okq (⟨"MailCatchModel", "pace", "()I"⟩, 47) := ⟨⟨by decide +kernel, by decide +kernel⟩, List.mem_of_getElem? (i := 921) (by decide +kernel), List.mem_of_getElem? (i := 1143) (by decide +kernel), List.mem_of_getElem? (i := 1144) (by decide +kernel)⟩
theorem lw_p87 : lw_okq (⟨"MailCatchModel", "handMany", "()I"⟩, 47) := ⟨⟨by decide +kernel, by decide +kernel⟩, List.mem_of_getElem? (i := 921) (by decide +kernel), List.mem_of_getElem? (i := 1147) (by decide +kernel), List.mem_of_getElem? (i := 1148) (by decide +kernel)⟩
theorem lw_p88 : lw_okq (⟨"MailCatchModel", "isArm", "(I)Z"⟩, 47) := ⟨⟨by decide +kernel, by decide +kernel⟩, List.mem_of_getElem? (i := 921) (by decide +kernel), List.mem_of_getElem? (i := 1155) (by decide +kernel), List.mem_of_getElem? (i := 1156) (by decide +kernel)⟩
theorem lw_p89 : lw_okq (⟨"MailCatchModel", "holdsOf", "(I)I"⟩, 47) := ⟨⟨by decide +kernel, by decide +kernel⟩, List.mem_of_getElem? (i := 921) (by decide +kernel), List.mem_of_getElem? (i := 1159) (by decide +kernel), List.mem_of_getElem? (i := 1160) (by decide +kernel)⟩
theorem lw_p90 : lw_okq (⟨"MailCatchModel", "lays", "(ZIII)I"⟩, 47) := ⟨⟨by decide +kernel, by decide +kernel⟩, List.mem_of_getElem? (i := 921) (by decide +kernel), List.mem_of_getElem? (i := 1175) (by decide +kernel), List.mem_of_getElem? (i := 1176) (by decide +kernel)⟩
theorem lw_p91 : lw_okq (⟨"MailCatchModel", "isJoint", "(I)Z"⟩, 47) := ⟨⟨by decide +kernel, by decide +kernel⟩, List.mem_of_getElem? (i := 921) (by decide +kernel), List.mem_of_getElem? (i := 1189) (by decide +kernel), List.mem_of_getElem? (i := 1190) (by decide +kernel)⟩
theorem lw_p92 : lw_okq (⟨"MailCatchModel", "posts", "(II)I"⟩, 47) := ⟨⟨by decide +kernel, by decide +kernel⟩, List.mem_of_getElem? (i := 921) (by decide +kernel), List.mem_of_getElem? (i := 1210) (by decide +kernel), List.mem_of_getElem? (i := 1211) (by decide +kernel)⟩
theorem lw_p93 : lw_okq (⟨"MailCatchModel", "areSets", "(II)Z"⟩, 47) := ⟨⟨by decide +kernel, by decide +kernel⟩, List.mem_of_getElem? (i := 921) (by decide +kernel), List.mem_of_getElem? (i := 1219) (by decide +kernel), List.mem_of_getElem? (i := 1220) (by decide +kernel)⟩
theorem lw_p94 : lw_okq (⟨"MailCatchModel", "nights", "(II)V"⟩, 47) := ⟨⟨by decide +kernel, by decide +kernel⟩, List.mem_of_getElem? (i := 921) (by decide +kernel), List.mem_of_getElem? (i := 1224) (by decide +kernel), List.mem_of_getElem? (i := 1225) (by decide +kernel)⟩
theorem lw_p95 : lw_okq (⟨"MailCatchModel", "counted", "(III)V"⟩, 47) := ⟨⟨by decide +kernel, by decide +kernel⟩, List.mem_of_getElem? (i := 921) (by decide +kernel), List.mem_of_getElem? (i := 1228) (by decide +kernel), List.mem_of_getElem? (i := 1229) (by decide +kernel)⟩
def lw_privs_6 : List (MethodName × Nat) := [(⟨"MailCatchModel", "nameHere", "()I"⟩, 47), (⟨"MailCatchModel", "readOnce", "(I)V"⟩, 47), (⟨"MailCatchModel", "number", "(II)I"⟩, 47), (⟨"MailCatchModel", "jointHere", "(I)I"⟩, 47), (⟨"MailCatchModel", "readMore", "(I)V"⟩, 47), (⟨"MailCatchModel", "slip", "()I"⟩, 47), (⟨"MailCatchModel", "pace", "()I"⟩, 47), (⟨"MailCatchModel", "handMany", "()I"⟩, 47), (⟨"MailCatchModel", "isArm", "(I)Z"⟩, 47), (⟨"MailCatchModel", "holdsOf", "(I)I"⟩, 47), (⟨"MailCatchModel", "lays", "(ZIII)I"⟩, 47), (⟨"MailCatchModel", "isJoint", "(I)Z"⟩, 47), (⟨"MailCatchModel", "posts", "(II)I"⟩, 47), (⟨"MailCatchModel", "areSets", "(II)Z"⟩, 47), (⟨"MailCatchModel", "nights", "(II)V"⟩, 47), (⟨"MailCatchModel", "counted", "(III)V"⟩, 47)]
theorem lw_r6 : ∀ q ∈ lw_privs_6, lw_okq q := List.forall_mem_cons.mpr ⟨lw_p80, List.forall_mem_cons.mpr ⟨lw_p81, List.forall_mem_cons.mpr ⟨lw_p82, List.forall_mem_cons.mpr ⟨lw_p83, List.forall_mem_cons.mpr ⟨lw_p84, List.forall_mem_cons.mpr ⟨lw_p85, List.forall_mem_cons.mpr ⟨lw_p86, List.forall_mem_cons.mpr ⟨lw_p87, List.forall_mem_cons.mpr ⟨lw_p88, List.forall_mem_cons.mpr ⟨lw_p89, List.forall_mem_cons.mpr ⟨lw_p90, List.forall_mem_cons.mpr ⟨lw_p91, List.forall_mem_cons.mpr ⟨lw_p92, List.forall_mem_cons.mpr ⟨lw_p93, List.forall_mem_cons.mpr ⟨lw_p94, List.forall_mem_cons.mpr ⟨lw_p95, fun _ h => absurd h List.not_mem_nil⟩⟩⟩⟩⟩⟩⟩⟩⟩⟩⟩⟩⟩⟩⟩⟩
theorem lw_p96 : lw_okq (⟨"MailCatchModel", "nightTold", "(I)I"⟩, 47) := ⟨⟨by decide +kernel, by decide +kernel⟩, List.mem_of_getElem? (i := 921) (by decide +kernel), List.mem_of_getElem? (i := 1232) (by decide +kernel), List.mem_of_getElem? (i := 1233) (by decide +kernel)⟩
theorem lw_p97 : lw_okq (⟨"MailCatchModel", "countAt", "(III)I"⟩, 47) := ⟨⟨by decide +kernel, by decide +kernel⟩, List.mem_of_getElem? (i := 921) (by decide +kernel), List.mem_of_getElem? (i := 1240) (by decide +kernel), List.mem_of_getElem? (i := 1241) (by decide +kernel)⟩
theorem lw_p98 : lw_okq (⟨"MailCatchModel", "meanOf", "(IIII)J"⟩, 47) := ⟨⟨by decide +kernel, by decide +kernel⟩, List.mem_of_getElem? (i := 921) (by decide +kernel), List.mem_of_getElem? (i := 1248) (by decide +kernel), List.mem_of_getElem? (i := 1249) (by decide +kernel)⟩
theorem lw_p99 : lw_okq (⟨"MailCatchModel", "sumOf", "(III)J"⟩, 47) := ⟨⟨by decide +kernel, by decide +kernel⟩, List.mem_of_getElem? (i := 921) (by decide +kernel), List.mem_of_getElem? (i := 1252) (by decide +kernel), List.mem_of_getElem? (i := 1253) (by decide +kernel)⟩
theorem lw_p100 : lw_okq (⟨"MailCatchModel", "weightOf", "(II)J"⟩, 47) := ⟨⟨by decide +kernel, by decide +kernel⟩, List.mem_of_getElem? (i := 921) (by decide +kernel), List.mem_of_getElem? (i := 1256) (by decide +kernel), List.mem_of_getElem? (i := 1257) (by decide +kernel)⟩
theorem lw_p101 : lw_okq (⟨"MailCatchModel", "valueOf", "(IIIII)I"⟩, 47) := ⟨⟨by decide +kernel, by decide +kernel⟩, List.mem_of_getElem? (i := 921) (by decide +kernel), List.mem_of_getElem? (i := 1260) (by decide +kernel), List.mem_of_getElem? (i := 1261) (by decide +kernel)⟩
theorem lw_p102 : lw_okq (⟨"MailCatchModel", "worthNow", "()I"⟩, 47) := ⟨⟨by decide +kernel, by decide +kernel⟩, List.mem_of_getElem? (i := 921) (by decide +kernel), List.mem_of_getElem? (i := 1267) (by decide +kernel), List.mem_of_getElem? (i := 1268) (by decide +kernel)⟩
theorem lw_p103 : lw_okq (⟨"MailCatchModel", "isAsSeen", "(II)Z"⟩, 47) := ⟨⟨by decide +kernel, by decide +kernel⟩, List.mem_of_getElem? (i := 921) (by decide +kernel), List.mem_of_getElem? (i := 1271) (by decide +kernel), List.mem_of_getElem? (i := 1272) (by decide +kernel)⟩
theorem lw_p104 : lw_okq (⟨"MailCatchModel", "allWeight", "(Z)J"⟩, 47) := ⟨⟨by decide +kernel, by decide +kernel⟩, List.mem_of_getElem? (i := 921) (by decide +kernel), List.mem_of_getElem? (i := 1275) (by decide +kernel), List.mem_of_getElem? (i := 1276) (by decide +kernel)⟩
theorem lw_p105 : lw_okq (⟨"MailCatchModel", "copies", "(II)V"⟩, 47) := ⟨⟨by decide +kernel, by decide +kernel⟩, List.mem_of_getElem? (i := 921) (by decide +kernel), List.mem_of_getElem? (i := 1312) (by decide +kernel), List.mem_of_getElem? (i := 1313) (by decide +kernel)⟩
theorem lw_p106 : lw_okq (⟨"MailCatchModel", "isHad", "(II)Z"⟩, 47) := ⟨⟨by decide +kernel, by decide +kernel⟩, List.mem_of_getElem? (i := 921) (by decide +kernel), List.mem_of_getElem? (i := 1323) (by decide +kernel), List.mem_of_getElem? (i := 1324) (by decide +kernel)⟩
theorem lw_p107 : lw_okq (⟨"MailCatchModel", "minutesBy", "(II)I"⟩, 47) := ⟨⟨by decide +kernel, by decide +kernel⟩, List.mem_of_getElem? (i := 921) (by decide +kernel), List.mem_of_getElem? (i := 1339) (by decide +kernel), List.mem_of_getElem? (i := 1340) (by decide +kernel)⟩
def lw_privs_7 : List (MethodName × Nat) := [(⟨"MailCatchModel", "nightTold", "(I)I"⟩, 47), (⟨"MailCatchModel", "countAt", "(III)I"⟩, 47), (⟨"MailCatchModel", "meanOf", "(IIII)J"⟩, 47), (⟨"MailCatchModel", "sumOf", "(III)J"⟩, 47), (⟨"MailCatchModel", "weightOf", "(II)J"⟩, 47), (⟨"MailCatchModel", "valueOf", "(IIIII)I"⟩, 47), (⟨"MailCatchModel", "worthNow", "()I"⟩, 47), (⟨"MailCatchModel", "isAsSeen", "(II)Z"⟩, 47), (⟨"MailCatchModel", "allWeight", "(Z)J"⟩, 47), (⟨"MailCatchModel", "copies", "(II)V"⟩, 47), (⟨"MailCatchModel", "isHad", "(II)Z"⟩, 47), (⟨"MailCatchModel", "minutesBy", "(II)I"⟩, 47)]
theorem lw_r7 : ∀ q ∈ lw_privs_7, lw_okq q := List.forall_mem_cons.mpr ⟨lw_p96, List.forall_mem_cons.mpr ⟨lw_p97, List.forall_mem_cons.mpr ⟨lw_p98, List.forall_mem_cons.mpr ⟨lw_p99, List.forall_mem_cons.mpr ⟨lw_p100, List.forall_mem_cons.mpr ⟨lw_p101, List.forall_mem_cons.mpr ⟨lw_p102, List.forall_mem_cons.mpr ⟨lw_p103, List.forall_mem_cons.mpr ⟨lw_p104, List.forall_mem_cons.mpr ⟨lw_p105, List.forall_mem_cons.mpr ⟨lw_p106, List.forall_mem_cons.mpr ⟨lw_p107, fun _ h => absurd h List.not_mem_nil⟩⟩⟩⟩⟩⟩⟩⟩⟩⟩⟩⟩
def lw_privs : List (MethodName × Nat) := lw_privs_1 ++ (lw_privs_2 ++ (lw_privs_3 ++ (lw_privs_4 ++ (lw_privs_5 ++ (lw_privs_6 ++ (lw_privs_7))))))
def lw_tbl : List Cond := k2_sels lw_privs ++ tables_1
theorem lw_privs_ok : ∀ q ∈ lw_privs, lw_okq q := by
  show ∀ q ∈ lw_privs_1 ++ (lw_privs_2 ++ (lw_privs_3 ++ (lw_privs_4 ++ (lw_privs_5 ++ (lw_privs_6 ++ (lw_privs_7)))))), lw_okq q
  exact List.forall_mem_append.mpr ⟨lw_r1, List.forall_mem_append.mpr ⟨lw_r2, List.forall_mem_append.mpr ⟨lw_r3, List.forall_mem_append.mpr ⟨lw_r4, List.forall_mem_append.mpr ⟨lw_r5, List.forall_mem_append.mpr ⟨lw_r6, lw_r7⟩⟩⟩⟩⟩⟩
/-! ===== BEGIN words of one list among another's, by their places ===== -/
theorem goodIn_r {big : List Cond} (ws : List Cond) (ps : List Nat) (hp : ws = ps.filterMap (fun i => big[i]?)) (h : ws.all goodWord = true) : GoodIn big ws := by
  intro w hw
  have h1 := List.all_eq_true.mp h w hw
  rw [hp] at hw
  obtain ⟨i, -, hi⟩ := List.mem_filterMap.mp hw
  have hm : w ∈ big := by first | exact List.mem_of_getElem? hi | exact List.getElem?_mem hi
  exact ⟨hm, good_of_word h1⟩
theorem goodIn_app {big a b : List Cond} (ha : GoodIn big a) (hb : GoodIn big b) : GoodIn big (a ++ b) := fun w h => (List.mem_append.mp h).elim (ha w) (hb w)
theorem goodIn_ca {big a b : List Cond} {c : Cond} (ha : GoodIn big (c :: a)) (hb : GoodIn big b) : GoodIn big (c :: (a ++ b)) := fun w h => (List.mem_cons.mp h).elim (fun e => ha w (List.mem_cons.mpr (Or.inl e))) (fun h => (List.mem_append.mp h).elim (fun h => ha w (List.mem_cons.mpr (Or.inr h))) (hb w))
theorem goodIn_sub {big ws : List Cond} (hm : ∀ w ∈ ws, w ∈ big) (h : ws.all goodWord = true) : GoodIn big ws := fun w hw => ⟨hm w hw, good_of_word (List.all_eq_true.mp h w hw)⟩
/-! ===== END ===== -/

/-! ===== BEGIN printed: names, fields, word lists, decode rows ===== -/
def RX0 : String := "MailCatch$Odds"
def TX0 : u_T := fun k => match k with
  | 0 => ("MailCatch$Odds", "joints", "I", false)
  | 1 => ("MailCatch$Odds", "missing", "[J", true)
  | 2 => ("MailCatch$Odds", "hearing", "[J", true)
  | 3 => ("MailCatch$Odds", "noticing", "[J", true)
  | 4 => ("MailCatch$Odds", "overlooking", "[J", true)
  | 5 => ("MailCatch$Odds", "behind", "[J", true)
  | 6 => ("MailCatch$Odds", "waiting", "[J", true)
  | 7 => ("MailCatch$Odds", "hanging", "[J", true)
  | 8 => ("MailCatch$Odds", "goesAt", "[J", true)
  | _ => ("MailCatch$Odds", "outAt", "[J", true)
def tyX0 : Nat → FieldType := fun k => match k with
  | 0 => .int
  | 1 => .array .long
  | 2 => .array .long
  | 3 => .array .long
  | 4 => .array .long
  | 5 => .array .long
  | 6 => .array .long
  | 7 => .array .long
  | 8 => .array .long
  | _ => .array .long
abbrev wsX00 : List Cond := u_ws RX0 TX0 10
theorem nmX0 : ∀ a, a < 10 → ∀ b, b < 10 → a ≠ b → (TX0 a).2.1 ≠ (TX0 b).2.1 := by decide +kernel
theorem tyX0_ok : ∀ k, k < 10 → parseFieldDescriptor (TX0 k).2.2.1 = some (tyX0 k) := by decide +kernel
abbrev cX0_init : ByteArray := prog_2_method_1_code
def yX0_init : MethodName := ⟨RX0, "<init>", "()V"⟩
abbrev cX0_weighByOdds : ByteArray := prog_2_method_2_code
def yX0_weighByOdds : MethodName := ⟨RX0, "weighByOdds", "(LMailCatch$Told;II)V"⟩
abbrev cX0_weighAlike : ByteArray := prog_2_method_3_code
def yX0_weighAlike : MethodName := ⟨RX0, "weighAlike", "(LMailCatch$Told;)V"⟩
abbrev cX0_forceMiss : ByteArray := prog_2_method_4_code
def yX0_forceMiss : MethodName := ⟨RX0, "forceMiss", "(IZ)V"⟩
abbrev cX0_forceNotice : ByteArray := prog_2_method_5_code
def yX0_forceNotice : MethodName := ⟨RX0, "forceNotice", "(IZ)V"⟩
abbrev cX0_sumBehind : ByteArray := prog_2_method_6_code
def yX0_sumBehind : MethodName := ⟨RX0, "sumBehind", "()V"⟩
abbrev cX0_whole : ByteArray := prog_2_method_7_code
def yX0_whole : MethodName := ⟨RX0, "whole", "()J"⟩
abbrev cX0_start : ByteArray := prog_2_method_8_code
def yX0_start : MethodName := ⟨RX0, "start", "()V"⟩
abbrev cX0_passJoint : ByteArray := prog_2_method_9_code
def yX0_passJoint : MethodName := ⟨RX0, "passJoint", "([JI)V"⟩
abbrev cX0_passCounting : ByteArray := prog_2_method_10_code
def yX0_passCounting : MethodName := ⟨RX0, "passCounting", "(I)V"⟩
abbrev cX0_ofCount : ByteArray := prog_2_method_11_code
def yX0_ofCount : MethodName := ⟨RX0, "ofCount", "(II)J"⟩
abbrev cX0_passAsSeen : ByteArray := prog_2_method_12_code
def yX0_passAsSeen : MethodName := ⟨RX0, "passAsSeen", "(LMailCatch$Seen;)J"⟩
abbrev cX0_passWithNet : ByteArray := prog_2_method_13_code
def yX0_passWithNet : MethodName := ⟨RX0, "passWithNet", "(III)V"⟩
abbrev cX0_takeIn : ByteArray := prog_2_method_14_code
def yX0_takeIn : MethodName := ⟨RX0, "takeIn", "(I)V"⟩
abbrev cX0_putOut : ByteArray := prog_2_method_15_code
def yX0_putOut : MethodName := ⟨RX0, "putOut", "(I)J"⟩
abbrev cX0_sumOf : ByteArray := prog_2_method_16_code
def yX0_sumOf : MethodName := ⟨RX0, "sumOf", "([J)J"⟩
def RX1 : String := "MailCatch$Passage"
def TX1 : u_T := fun k => match k with
  | 0 => ("MailCatch$Passage", "wentOut", "I", false)
  | 1 => ("MailCatch$Passage", "wentIn", "I", false)
  | 2 => ("MailCatch$Passage", "met", "I", false)
  | 3 => ("MailCatch$Passage", "hit", "I", false)
  | 4 => ("MailCatch$Passage", "torn", "I", false)
  | _ => ("MailCatch$Passage", "counted", "I", false)
def tyX1 : Nat → FieldType := fun k => match k with
  | 0 => .int
  | 1 => .int
  | 2 => .int
  | 3 => .int
  | 4 => .int
  | _ => .int
abbrev wsX10 : List Cond := u_ws RX1 TX1 6
theorem nmX1 : ∀ a, a < 6 → ∀ b, b < 6 → a ≠ b → (TX1 a).2.1 ≠ (TX1 b).2.1 := by decide +kernel
theorem tyX1_ok : ∀ k, k < 6 → parseFieldDescriptor (TX1 k).2.2.1 = some (tyX1 k) := by decide +kernel
abbrev cX1_init : ByteArray := prog_3_method_1_code
def yX1_init : MethodName := ⟨RX1, "<init>", "()V"⟩
abbrev cX1_go : ByteArray := prog_3_method_2_code
def yX1_go : MethodName := ⟨RX1, "go", "(LMailCatch$Told;II)V"⟩
abbrev cX1_meet : ByteArray := prog_3_method_3_code
def yX1_meet : MethodName := ⟨RX1, "meet", "(LMailCatch$Told;I)V"⟩
abbrev cX1_answer : ByteArray := prog_3_method_4_code
def yX1_answer : MethodName := ⟨RX1, "answer", "(I)I"⟩
def RX2 : String := "MailCatch$Reader"
def TX2 : u_T := fun k => match k with
  | 0 => ("MailCatch$Reader", "from", "LMailCatch$Tape;", true)
  | 1 => ("MailCatch$Reader", "draft", "LMailCatch$Told;", true)
  | 2 => ("MailCatch$Reader", "toldLines", "I", false)
  | 3 => ("MailCatch$Reader", "fault", "I", false)
  | _ => ("MailCatch$Reader", "faultPlace", "I", false)
def tyX2 : Nat → FieldType := fun k => match k with
  | 0 => .object "MailCatch$Tape"
  | 1 => .object "MailCatch$Told"
  | 2 => .int
  | 3 => .int
  | _ => .int
abbrev wsX20 : List Cond := u_ws RX2 TX2 5
theorem nmX2 : ∀ a, a < 5 → ∀ b, b < 5 → a ≠ b → (TX2 a).2.1 ≠ (TX2 b).2.1 := by decide +kernel
theorem tyX2_ok : ∀ k, k < 5 → parseFieldDescriptor (TX2 k).2.2.1 = some (tyX2 k) := by decide +kernel
abbrev cX2_init : ByteArray := prog_4_method_1_code
def yX2_init : MethodName := ⟨RX2, "<init>", "()V"⟩
abbrev cX2_start : ByteArray := prog_4_method_2_code
def yX2_start : MethodName := ⟨RX2, "start", "()V"⟩
abbrev cX2_finish : ByteArray := prog_4_method_3_code
def yX2_finish : MethodName := ⟨RX2, "finish", "()V"⟩
abbrev cX2_readLine : ByteArray := prog_4_method_4_code
def yX2_readLine : MethodName := ⟨RX2, "readLine", "()Z"⟩
abbrev cX2_readRule : ByteArray := prog_4_method_5_code
def yX2_readRule : MethodName := ⟨RX2, "readRule", "(I)Z"⟩
abbrev cX2_readArm : ByteArray := prog_4_method_6_code
def yX2_readArm : MethodName := ⟨RX2, "readArm", "()Z"⟩
abbrev cX2_readMark : ByteArray := prog_4_method_7_code
def yX2_readMark : MethodName := ⟨RX2, "readMark", "()Z"⟩
abbrev cX2_readTown : ByteArray := prog_4_method_8_code
def yX2_readTown : MethodName := ⟨RX2, "readTown", "()Z"⟩
abbrev cX2_readSignal : ByteArray := prog_4_method_9_code
def yX2_readSignal : MethodName := ⟨RX2, "readSignal", "()Z"⟩
abbrev cX2_takeToken : ByteArray := prog_4_method_10_code
def yX2_takeToken : MethodName := ⟨RX2, "takeToken", "()Z"⟩
abbrev cX2_takeSign : ByteArray := prog_4_method_11_code
def yX2_takeSign : MethodName := ⟨RX2, "takeSign", "()Z"⟩
abbrev cX2_takeNumber : ByteArray := prog_4_method_12_code
def yX2_takeNumber : MethodName := ⟨RX2, "takeNumber", "(II)I"⟩
abbrev cX2_refuse : ByteArray := prog_4_method_13_code
def yX2_refuse : MethodName := ⟨RX2, "refuse", "(I)Z"⟩
abbrev cX2_isRowOf : ByteArray := prog_4_method_14_code
def yX2_isRowOf : MethodName := ⟨RX2, "isRowOf", "(I)Z"⟩
abbrev cX2_lineNamed : ByteArray := prog_4_method_15_code
def yX2_lineNamed : MethodName := ⟨RX2, "lineNamed", "()I"⟩
abbrev cX2_kindNamed : ByteArray := prog_4_method_16_code
def yX2_kindNamed : MethodName := ⟨RX2, "kindNamed", "()I"⟩
abbrev cX2_isJointMissing : ByteArray := prog_4_method_17_code
def yX2_isJointMissing : MethodName := ⟨RX2, "isJointMissing", "()Z"⟩
def RX3 : String := "MailCatch$Seen"
def TX3 : u_T := fun k => match k with
  | 0 => ("MailCatch$Seen", "joint", "[I", true)
  | 1 => ("MailCatch$Seen", "counted", "[I", true)
  | _ => ("MailCatch$Seen", "has", "I", false)
def tyX3 : Nat → FieldType := fun k => match k with
  | 0 => .array .int
  | 1 => .array .int
  | _ => .int
abbrev wsX30 : List Cond := u_ws RX3 TX3 3
theorem nmX3 : ∀ a, a < 3 → ∀ b, b < 3 → a ≠ b → (TX3 a).2.1 ≠ (TX3 b).2.1 := by decide +kernel
theorem tyX3_ok : ∀ k, k < 3 → parseFieldDescriptor (TX3 k).2.2.1 = some (tyX3 k) := by decide +kernel
abbrev cX3_init : ByteArray := prog_5_method_1_code
def yX3_init : MethodName := ⟨RX3, "<init>", "()V"⟩
abbrev cX3_add : ByteArray := prog_5_method_2_code
def yX3_add : MethodName := ⟨RX3, "add", "(II)Z"⟩
abbrev cX3_leaveIn : ByteArray := prog_5_method_3_code
def yX3_leaveIn : MethodName := ⟨RX3, "leaveIn", "([JI)V"⟩
abbrev cX3_leaveOnly : ByteArray := prog_5_method_4_code
def yX3_leaveOnly : MethodName := ⟨RX3, "leaveOnly", "([JI)V"⟩
def RX4 : String := "MailCatch$Sheets"
def TX4 : u_T := fun k => match k with
  | 0 => ("MailCatch$Sheets", "made", "[I", true)
  | 1 => ("MailCatch$Sheets", "lanes", "[I", true)
  | 2 => ("MailCatch$Sheets", "sizes", "[I", true)
  | _ => ("MailCatch$Sheets", "cells", "[I", true)
def tyX4 : Nat → FieldType := fun k => match k with
  | 0 => .array .int
  | 1 => .array .int
  | 2 => .array .int
  | _ => .array .int
abbrev wsX40 : List Cond := u_ws RX4 TX4 4
theorem nmX4 : ∀ a, a < 4 → ∀ b, b < 4 → a ≠ b → (TX4 a).2.1 ≠ (TX4 b).2.1 := by decide +kernel
theorem tyX4_ok : ∀ k, k < 4 → parseFieldDescriptor (TX4 k).2.2.1 = some (tyX4 k) := by decide +kernel
abbrev cX4_init : ByteArray := prog_6_method_1_code
def yX4_init : MethodName := ⟨RX4, "<init>", "()V"⟩
abbrev cX4_renew : ByteArray := prog_6_method_2_code
def yX4_renew : MethodName := ⟨RX4, "renew", "(III)V"⟩
abbrev cX4_cellsOf : ByteArray := prog_6_method_3_code
def yX4_cellsOf : MethodName := ⟨RX4, "cellsOf", "(I)I"⟩
abbrev cX4_faultOfCell : ByteArray := prog_6_method_4_code
def yX4_faultOfCell : MethodName := ⟨RX4, "faultOfCell", "(II)I"⟩
abbrev cX4_faultOfLane : ByteArray := prog_6_method_5_code
def yX4_faultOfLane : MethodName := ⟨RX4, "faultOfLane", "(II)I"⟩
abbrev cX4_faultOfPair : ByteArray := prog_6_method_6_code
def yX4_faultOfPair : MethodName := ⟨RX4, "faultOfPair", "(II)I"⟩
abbrev cX4_write : ByteArray := prog_6_method_7_code
def yX4_write : MethodName := ⟨RX4, "write", "(III)V"⟩
abbrev cX4_cell : ByteArray := prog_6_method_8_code
def yX4_cell : MethodName := ⟨RX4, "cell", "(II)I"⟩
def RX5 : String := "MailCatch$Tape"
def TX5 : u_T := fun k => match k with
  | 0 => ("MailCatch$Tape", "bytes", "[B", true)
  | 1 => ("MailCatch$Tape", "length", "I", false)
  | 2 => ("MailCatch$Tape", "next", "I", false)
  | 3 => ("MailCatch$Tape", "kind", "I", false)
  | _ => ("MailCatch$Tape", "place", "I", false)
def tyX5 : Nat → FieldType := fun k => match k with
  | 0 => .array .byte
  | 1 => .int
  | 2 => .int
  | 3 => .int
  | _ => .int
abbrev wsX50 : List Cond := u_ws RX5 TX5 5
theorem nmX5 : ∀ a, a < 5 → ∀ b, b < 5 → a ≠ b → (TX5 a).2.1 ≠ (TX5 b).2.1 := by decide +kernel
theorem tyX5_ok : ∀ k, k < 5 → parseFieldDescriptor (TX5 k).2.2.1 = some (tyX5 k) := by decide +kernel
abbrev cX5_init : ByteArray := prog_7_method_1_code
def yX5_init : MethodName := ⟨RX5, "<init>", "()V"⟩
abbrev cX5_add : ByteArray := prog_7_method_2_code
def yX5_add : MethodName := ⟨RX5, "add", "(I)Z"⟩
abbrev cX5_byteAt : ByteArray := prog_7_method_3_code
def yX5_byteAt : MethodName := ⟨RX5, "byteAt", "(I)I"⟩
abbrev cX5_readToken : ByteArray := prog_7_method_4_code
def yX5_readToken : MethodName := ⟨RX5, "readToken", "()V"⟩
abbrev cX5_numberRead : ByteArray := prog_7_method_5_code
def yX5_numberRead : MethodName := ⟨RX5, "numberRead", "()I"⟩
abbrev cX5_kindOf : ByteArray := prog_7_method_6_code
def yX5_kindOf : MethodName := ⟨RX5, "kindOf", "(I)I"⟩
abbrev cX5_isName : ByteArray := prog_7_method_7_code
def yX5_isName : MethodName := ⟨RX5, "isName", "(Ljava/lang/String;)Z"⟩
def RX6 : String := "MailCatch$Told"
def TX6 : u_T := fun k => match k with
  | 0 => ("MailCatch$Told", "rules", "[I", true)
  | 1 => ("MailCatch$Told", "armKind", "[I", true)
  | 2 => ("MailCatch$Told", "armJoint", "[I", true)
  | 3 => ("MailCatch$Told", "armWorth", "[I", true)
  | 4 => ("MailCatch$Told", "markJoint", "[I", true)
  | 5 => ("MailCatch$Told", "markClear", "[I", true)
  | 6 => ("MailCatch$Told", "townLetters", "[I", true)
  | _ => ("MailCatch$Told", "townWorth", "[I", true)
def tyX6 : Nat → FieldType := fun k => match k with
  | 0 => .array .int
  | 1 => .array .int
  | 2 => .array .int
  | 3 => .array .int
  | 4 => .array .int
  | 5 => .array .int
  | 6 => .array .int
  | _ => .array .int
abbrev wsX60 : List Cond := u_ws RX6 TX6 8
theorem nmX6 : ∀ a, a < 8 → ∀ b, b < 8 → a ≠ b → (TX6 a).2.1 ≠ (TX6 b).2.1 := by decide +kernel
theorem tyX6_ok : ∀ k, k < 8 → parseFieldDescriptor (TX6 k).2.2.1 = some (tyX6 k) := by decide +kernel
abbrev cX6_init : ByteArray := prog_8_method_1_code
def yX6_init : MethodName := ⟨RX6, "<init>", "()V"⟩
abbrev cX6_restart : ByteArray := prog_8_method_2_code
def yX6_restart : MethodName := ⟨RX6, "restart", "()V"⟩
abbrev cX6_take : ByteArray := prog_8_method_3_code
def yX6_take : MethodName := ⟨RX6, "take", "(LMailCatch$Told;)V"⟩
abbrev cX6_value : ByteArray := prog_8_method_4_code
def yX6_value : MethodName := ⟨RX6, "value", "(I)I"⟩
abbrev cX6_become : ByteArray := prog_8_method_5_code
def yX6_become : MethodName := ⟨RX6, "become", "(II)V"⟩
abbrev cX6_holdsOf : ByteArray := prog_8_method_6_code
def yX6_holdsOf : MethodName := ⟨RX6, "holdsOf", "(II)I"⟩
abbrev cX6_armAt : ByteArray := prog_8_method_7_code
def yX6_armAt : MethodName := ⟨RX6, "armAt", "(I)I"⟩
abbrev cX6_markAt : ByteArray := prog_8_method_8_code
def yX6_markAt : MethodName := ⟨RX6, "markAt", "(I)I"⟩
abbrev cX6_isSignalAt : ByteArray := prog_8_method_9_code
def yX6_isSignalAt : MethodName := ⟨RX6, "isSignalAt", "(I)Z"⟩
abbrev cX6_countBehind : ByteArray := prog_8_method_10_code
def yX6_countBehind : MethodName := ⟨RX6, "countBehind", "(IIII)I"⟩
abbrev cX6_minutesOf : ByteArray := prog_8_method_11_code
def yX6_minutesOf : MethodName := ⟨RX6, "minutesOf", "(II)I"⟩
abbrev cX6_lettersWorth : ByteArray := prog_8_method_12_code
def yX6_lettersWorth : MethodName := ⟨RX6, "lettersWorth", "(I)I"⟩
abbrev cX6_allLetters : ByteArray := prog_8_method_13_code
def yX6_allLetters : MethodName := ⟨RX6, "allLetters", "()I"⟩
def RX7 : String := "MailCatch"
def TX7 : u_T := fun k => match k with
  | 0 => ("MailCatch", "now", "LMailCatch$Told;", true)
  | 1 => ("MailCatch", "firstImage", "LMailCatch$Told;", true)
  | 2 => ("MailCatch", "secondImage", "LMailCatch$Told;", true)
  | 3 => ("MailCatch", "images", "I", false)
  | 4 => ("MailCatch", "reader", "LMailCatch$Reader;", true)
  | 5 => ("MailCatch", "tape", "LMailCatch$Tape;", true)
  | 6 => ("MailCatch", "textFault", "I", false)
  | 7 => ("MailCatch", "passage", "LMailCatch$Passage;", true)
  | 8 => ("MailCatch", "odds", "LMailCatch$Odds;", true)
  | 9 => ("MailCatch", "seen", "LMailCatch$Seen;", true)
  | 10 => ("MailCatch", "sheets", "LMailCatch$Sheets;", true)
  | 11 => ("MailCatch", "lettersAhead", "[I", true)
  | _ => ("MailCatch", "readFault", "I", false)
def tyX7 : Nat → FieldType := fun k => match k with
  | 0 => .object "MailCatch$Told"
  | 1 => .object "MailCatch$Told"
  | 2 => .object "MailCatch$Told"
  | 3 => .int
  | 4 => .object "MailCatch$Reader"
  | 5 => .object "MailCatch$Tape"
  | 6 => .int
  | 7 => .object "MailCatch$Passage"
  | 8 => .object "MailCatch$Odds"
  | 9 => .object "MailCatch$Seen"
  | 10 => .object "MailCatch$Sheets"
  | 11 => .array .int
  | _ => .int
abbrev wsX70 : List Cond := u_ws RX7 TX7 13
theorem nmX7 : ∀ a, a < 13 → ∀ b, b < 13 → a ≠ b → (TX7 a).2.1 ≠ (TX7 b).2.1 := by decide +kernel
theorem tyX7_ok : ∀ k, k < 13 → parseFieldDescriptor (TX7 k).2.2.1 = some (tyX7 k) := by decide +kernel
abbrev cX7_init : ByteArray := prog_1_method_1_code
def yX7_init : MethodName := ⟨RX7, "<init>", "()V"⟩
abbrev cX7_feed : ByteArray := prog_1_method_2_code
def yX7_feed : MethodName := ⟨RX7, "feed", "(I)I"⟩
abbrev cX7_end : ByteArray := prog_1_method_3_code
def yX7_end : MethodName := ⟨RX7, "end", "(I)I"⟩
abbrev cX7_text : ByteArray := prog_1_method_4_code
def yX7_text : MethodName := ⟨RX7, "text", "()I"⟩
abbrev cX7_fault : ByteArray := prog_1_method_5_code
def yX7_fault : MethodName := ⟨RX7, "fault", "()I"⟩
abbrev cX7_rule : ByteArray := prog_1_method_6_code
def yX7_rule : MethodName := ⟨RX7, "rule", "(I)I"⟩
abbrev cX7_arm : ByteArray := prog_1_method_7_code
def yX7_arm : MethodName := ⟨RX7, "arm", "(II)I"⟩
abbrev cX7_mark : ByteArray := prog_1_method_8_code
def yX7_mark : MethodName := ⟨RX7, "mark", "(II)I"⟩
abbrev cX7_town : ByteArray := prog_1_method_9_code
def yX7_town : MethodName := ⟨RX7, "town", "(II)I"⟩
abbrev cX7_set : ByteArray := prog_1_method_10_code
def yX7_set : MethodName := ⟨RX7, "set", "(II)I"⟩
abbrev cX7_net : ByteArray := prog_1_method_11_code
def yX7_net : MethodName := ⟨RX7, "net", "(II)I"⟩
abbrev cX7_signal : ByteArray := prog_1_method_12_code
def yX7_signal : MethodName := ⟨RX7, "signal", "(IZ)I"⟩
abbrev cX7_bridge : ByteArray := prog_1_method_13_code
def yX7_bridge : MethodName := ⟨RX7, "bridge", "(I)I"⟩
abbrev cX7_clear : ByteArray := prog_1_method_14_code
def yX7_clear : MethodName := ⟨RX7, "clear", "(II)I"⟩
abbrev cX7_hang : ByteArray := prog_1_method_15_code
def yX7_hang : MethodName := ⟨RX7, "hang", "(II)I"⟩
abbrev cX7_post : ByteArray := prog_1_method_16_code
def yX7_post : MethodName := ⟨RX7, "post", "(II)I"⟩
abbrev cX7_night : ByteArray := prog_1_method_17_code
def yX7_night : MethodName := ⟨RX7, "night", "(III)I"⟩
abbrev cX7_counts : ByteArray := prog_1_method_18_code
def yX7_counts : MethodName := ⟨RX7, "counts", "(III)I"⟩
abbrev cX7_where : ByteArray := prog_1_method_19_code
def yX7_where : MethodName := ⟨RX7, "where", "(III)J"⟩
abbrev cX7_goes : ByteArray := prog_1_method_20_code
def yX7_goes : MethodName := ⟨RX7, "goes", "(II)J"⟩
abbrev cX7_isOut : ByteArray := prog_1_method_21_code
def yX7_isOut : MethodName := ⟨RX7, "isOut", "(II)J"⟩
abbrev cX7_had : ByteArray := prog_1_method_22_code
def yX7_had : MethodName := ⟨RX7, "had", "(II)J"⟩
abbrev cX7_hits : ByteArray := prog_1_method_23_code
def yX7_hits : MethodName := ⟨RX7, "hits", "(I)J"⟩
abbrev cX7_torn : ByteArray := prog_1_method_24_code
def yX7_torn : MethodName := ⟨RX7, "torn", "(I)J"⟩
abbrev cX7_worth : ByteArray := prog_1_method_25_code
def yX7_worth : MethodName := ⟨RX7, "worth", "(I)J"⟩
abbrev cX7_best : ByteArray := prog_1_method_26_code
def yX7_best : MethodName := ⟨RX7, "best", "(I)J"⟩
abbrev cX7_fog : ByteArray := prog_1_method_27_code
def yX7_fog : MethodName := ⟨RX7, "fog", "(II)I"⟩
abbrev cX7_fast : ByteArray := prog_1_method_28_code
def yX7_fast : MethodName := ⟨RX7, "fast", "(II)I"⟩
abbrev cX7_slack : ByteArray := prog_1_method_29_code
def yX7_slack : MethodName := ⟨RX7, "slack", "(II)I"⟩
abbrev cX7_sort : ByteArray := prog_1_method_30_code
def yX7_sort : MethodName := ⟨RX7, "sort", "(II)I"⟩
abbrev cX7_minutes : ByteArray := prog_1_method_31_code
def yX7_minutes : MethodName := ⟨RX7, "minutes", "(I)I"⟩
abbrev cX7_hands : ByteArray := prog_1_method_32_code
def yX7_hands : MethodName := ⟨RX7, "hands", "(I)I"⟩
abbrev cX7_see : ByteArray := prog_1_method_33_code
def yX7_see : MethodName := ⟨RX7, "see", "(II)I"⟩
abbrev cX7_forget : ByteArray := prog_1_method_34_code
def yX7_forget : MethodName := ⟨RX7, "forget", "(I)I"⟩
abbrev cX7_fits : ByteArray := prog_1_method_35_code
def yX7_fits : MethodName := ⟨RX7, "fits", "(I)I"⟩
abbrev cX7_likely : ByteArray := prog_1_method_36_code
def yX7_likely : MethodName := ⟨RX7, "likely", "(I)J"⟩
abbrev cX7_drift : ByteArray := prog_1_method_37_code
def yX7_drift : MethodName := ⟨RX7, "drift", "(II)I"⟩
abbrev cX7_keep : ByteArray := prog_1_method_38_code
def yX7_keep : MethodName := ⟨RX7, "keep", "(I)I"⟩
abbrev cX7_back : ByteArray := prog_1_method_39_code
def yX7_back : MethodName := ⟨RX7, "back", "(I)I"⟩
abbrev cX7_sheet : ByteArray := prog_1_method_40_code
def yX7_sheet : MethodName := ⟨RX7, "sheet", "(III)I"⟩
abbrev cX7_lay : ByteArray := prog_1_method_41_code
def yX7_lay : MethodName := ⟨RX7, "lay", "(III)I"⟩
abbrev cX7_read : ByteArray := prog_1_method_42_code
def yX7_read : MethodName := ⟨RX7, "read", "(IIII)I"⟩
abbrev cX7_split : ByteArray := prog_1_method_43_code
def yX7_split : MethodName := ⟨RX7, "split", "()I"⟩
abbrev cX7_count : ByteArray := prog_1_method_44_code
def yX7_count : MethodName := ⟨RX7, "count", "(I)I"⟩
abbrev cX7_isPart : ByteArray := prog_1_method_45_code
def yX7_isPart : MethodName := ⟨RX7, "isPart", "(I)Z"⟩
abbrev cX7_isNightPart : ByteArray := prog_1_method_46_code
def yX7_isNightPart : MethodName := ⟨RX7, "isNightPart", "(I)Z"⟩
abbrev cX7_isWithin : ByteArray := prog_1_method_47_code
def yX7_isWithin : MethodName := ⟨RX7, "isWithin", "(II)Z"⟩
abbrev cX7_isJoint : ByteArray := prog_1_method_48_code
def yX7_isJoint : MethodName := ⟨RX7, "isJoint", "(I)Z"⟩
abbrev cX7_isArm : ByteArray := prog_1_method_49_code
def yX7_isArm : MethodName := ⟨RX7, "isArm", "(I)Z"⟩
abbrev cX7_isMark : ByteArray := prog_1_method_50_code
def yX7_isMark : MethodName := ⟨RX7, "isMark", "(I)Z"⟩
abbrev cX7_isTown : ByteArray := prog_1_method_51_code
def yX7_isTown : MethodName := ⟨RX7, "isTown", "(I)Z"⟩
abbrev cX7_areJoints : ByteArray := prog_1_method_52_code
def yX7_areJoints : MethodName := ⟨RX7, "areJoints", "(I)Z"⟩
abbrev cX7_areMarks : ByteArray := prog_1_method_53_code
def yX7_areMarks : MethodName := ⟨RX7, "areMarks", "(I)Z"⟩
abbrev cX7_areTowns : ByteArray := prog_1_method_54_code
def yX7_areTowns : MethodName := ⟨RX7, "areTowns", "(I)Z"⟩
abbrev cX7_isImage : ByteArray := prog_1_method_55_code
def yX7_isImage : MethodName := ⟨RX7, "isImage", "(I)Z"⟩
abbrev cX7_isSheet : ByteArray := prog_1_method_56_code
def yX7_isSheet : MethodName := ⟨RX7, "isSheet", "(I)Z"⟩
abbrev cX7_isLane : ByteArray := prog_1_method_57_code
def yX7_isLane : MethodName := ⟨RX7, "isLane", "(I)Z"⟩
abbrev cX7_imageOf : ByteArray := prog_1_method_58_code
def yX7_imageOf : MethodName := ⟨RX7, "imageOf", "(I)LMailCatch$Told;"⟩
abbrev cX7_postedTo : ByteArray := prog_1_method_59_code
def yX7_postedTo : MethodName := ⟨RX7, "postedTo", "([III)I"⟩
abbrev cX7_passByOdds : ByteArray := prog_1_method_60_code
def yX7_passByOdds : MethodName := ⟨RX7, "passByOdds", "()V"⟩
abbrev cX7_metBy : ByteArray := prog_1_method_61_code
def yX7_metBy : MethodName := ⟨RX7, "metBy", "(I)J"⟩
abbrev cX7_isHadBy : ByteArray := prog_1_method_62_code
def yX7_isHadBy : MethodName := ⟨RX7, "isHadBy", "(IIII)Z"⟩
abbrev cX7_hitByOdds : ByteArray := prog_1_method_63_code
def yX7_hitByOdds : MethodName := ⟨RX7, "hitByOdds", "()J"⟩
abbrev cX7_tornByOdds : ByteArray := prog_1_method_64_code
def yX7_tornByOdds : MethodName := ⟨RX7, "tornByOdds", "()J"⟩
abbrev cX7_worthByOdds : ByteArray := prog_1_method_65_code
def yX7_worthByOdds : MethodName := ⟨RX7, "worthByOdds", "()J"⟩
abbrev cX7_jointsMissed : ByteArray := prog_1_method_66_code
def yX7_jointsMissed : MethodName := ⟨RX7, "jointsMissed", "(Z)I"⟩
abbrev cX7_marksNoticed : ByteArray := prog_1_method_67_code
def yX7_marksNoticed : MethodName := ⟨RX7, "marksNoticed", "(Z)I"⟩
abbrev cX7_nextSeed : ByteArray := prog_1_method_68_code
def yX7_nextSeed : MethodName := ⟨RX7, "nextSeed", "(I)I"⟩
abbrev cX7_figureOf : ByteArray := prog_1_method_69_code
def yX7_figureOf : MethodName := ⟨RX7, "figureOf", "(I)I"⟩
abbrev cX7_part : ByteArray := prog_1_method_70_code
def yX7_part : MethodName := ⟨RX7, "part", "(JJI)J"⟩
abbrev cX7_greatestShared : ByteArray := prog_1_method_71_code
def yX7_greatestShared : MethodName := ⟨RX7, "greatestShared", "(JJ)J"⟩
abbrev cX7_at : ByteArray := prog_1_method_72_code
def yX7_at : MethodName := ⟨RX7, "at", "([II)I"⟩
abbrev cX7_put : ByteArray := prog_1_method_73_code
def yX7_put : MethodName := ⟨RX7, "put", "([III)V"⟩
abbrev cX7_at_ : ByteArray := prog_1_method_74_code
def yX7_at_ : MethodName := ⟨RX7, "at", "([JI)J"⟩
abbrev cX7_put_ : ByteArray := prog_1_method_75_code
def yX7_put_ : MethodName := ⟨RX7, "put", "([JIJ)V"⟩
def RX8 : String := "MailCatchModel"
def TX8 : u_T := fun k => match k with
  | 0 => ("MailCatchModel", "state", "[I", true)
  | 1 => ("MailCatchModel", "joints", "I", false)
  | 2 => ("MailCatchModel", "arms", "[I", true)
  | 3 => ("MailCatchModel", "armMany", "I", false)
  | 4 => ("MailCatchModel", "marks", "[I", true)
  | 5 => ("MailCatchModel", "markMany", "I", false)
  | 6 => ("MailCatchModel", "towns", "[I", true)
  | 7 => ("MailCatchModel", "townMany", "I", false)
  | 8 => ("MailCatchModel", "costs", "[I", true)
  | 9 => ("MailCatchModel", "readPage", "[I", true)
  | 10 => ("MailCatchModel", "readArms", "[I", true)
  | 11 => ("MailCatchModel", "readMarks", "[I", true)
  | 12 => ("MailCatchModel", "readTowns", "[I", true)
  | 13 => ("MailCatchModel", "readCosts", "[I", true)
  | 14 => ("MailCatchModel", "readJoints", "I", false)
  | 15 => ("MailCatchModel", "readArmMany", "I", false)
  | 16 => ("MailCatchModel", "readMarkMany", "I", false)
  | 17 => ("MailCatchModel", "readTownMany", "I", false)
  | 18 => ("MailCatchModel", "toldOnce", "I", false)
  | 19 => ("MailCatchModel", "armsTold", "I", false)
  | 20 => ("MailCatchModel", "marksTold", "I", false)
  | 21 => ("MailCatchModel", "highJoint", "I", false)
  | 22 => ("MailCatchModel", "tape", "[I", true)
  | 23 => ("MailCatchModel", "taped", "I", false)
  | 24 => ("MailCatchModel", "fault", "I", false)
  | 25 => ("MailCatchModel", "broken", "I", false)
  | 26 => ("MailCatchModel", "brokenAt", "I", false)
  | 27 => ("MailCatchModel", "spot", "I", false)
  | 28 => ("MailCatchModel", "here", "I", false)
  | 29 => ("MailCatchModel", "token", "I", false)
  | 30 => ("MailCatchModel", "value", "I", false)
  | 31 => ("MailCatchModel", "cuts", "[I", true)
  | 32 => ("MailCatchModel", "letters", "[I", true)
  | 33 => ("MailCatchModel", "count", "I", false)
  | 34 => ("MailCatchModel", "outAt", "I", false)
  | 35 => ("MailCatchModel", "inAt", "I", false)
  | 36 => ("MailCatchModel", "met", "I", false)
  | 37 => ("MailCatchModel", "hit", "I", false)
  | 38 => ("MailCatchModel", "isTorn", "I", false)
  | 39 => ("MailCatchModel", "passed", "I", false)
  | 40 => ("MailCatchModel", "seen", "[I", true)
  | 41 => ("MailCatchModel", "seenMany", "I", false)
  | 42 => ("MailCatchModel", "isKept", "[Z", true)
  | 43 => ("MailCatchModel", "lanes", "[I", true)
  | 44 => ("MailCatchModel", "lengths", "[I", true)
  | 45 => ("MailCatchModel", "cells", "[I", true)
  | _ => ("MailCatchModel", "splits", "I", false)
def tyX8 : Nat → FieldType := fun k => match k with
  | 0 => .array .int
  | 1 => .int
  | 2 => .array .int
  | 3 => .int
  | 4 => .array .int
  | 5 => .int
  | 6 => .array .int
  | 7 => .int
  | 8 => .array .int
  | 9 => .array .int
  | 10 => .array .int
  | 11 => .array .int
  | 12 => .array .int
  | 13 => .array .int
  | 14 => .int
  | 15 => .int
  | 16 => .int
  | 17 => .int
  | 18 => .int
  | 19 => .int
  | 20 => .int
  | 21 => .int
  | 22 => .array .int
  | 23 => .int
  | 24 => .int
  | 25 => .int
  | 26 => .int
  | 27 => .int
  | 28 => .int
  | 29 => .int
  | 30 => .int
  | 31 => .array .int
  | 32 => .array .int
  | 33 => .int
  | 34 => .int
  | 35 => .int
  | 36 => .int
  | 37 => .int
  | 38 => .int
  | 39 => .int
  | 40 => .array .int
  | 41 => .int
  | 42 => .array .boolean
  | 43 => .array .int
  | 44 => .array .int
  | 45 => .array .int
  | _ => .int
abbrev wsX80 : List Cond := u_ws RX8 TX8 47
theorem nmX8 : ∀ a, a < 47 → ∀ b, b < 47 → a ≠ b → (TX8 a).2.1 ≠ (TX8 b).2.1 := by decide +kernel
theorem tyX8_ok : ∀ k, k < 47 → parseFieldDescriptor (TX8 k).2.2.1 = some (tyX8 k) := by decide +kernel
abbrev cX8_init : ByteArray := prog_10_method_1_code
def yX8_init : MethodName := ⟨RX8, "<init>", "()V"⟩
abbrev cX8_in : ByteArray := prog_10_method_3_code
def yX8_in : MethodName := ⟨RX8, "in", "(JJJ)Z"⟩
abbrev cX8_feed : ByteArray := prog_10_method_4_code
def yX8_feed : MethodName := ⟨RX8, "feed", "(I)I"⟩
abbrev cX8_end : ByteArray := prog_10_method_5_code
def yX8_end : MethodName := ⟨RX8, "end", "(I)I"⟩
abbrev cX8_byteAt : ByteArray := prog_10_method_6_code
def yX8_byteAt : MethodName := ⟨RX8, "byteAt", "(I)I"⟩
abbrev cX8_fails : ByteArray := prog_10_method_7_code
def yX8_fails : MethodName := ⟨RX8, "fails", "(I)V"⟩
abbrev cX8_nameHere : ByteArray := prog_10_method_8_code
def yX8_nameHere : MethodName := ⟨RX8, "nameHere", "()I"⟩
abbrev cX8_step : ByteArray := prog_10_method_9_code
def yX8_step : MethodName := ⟨RX8, "step", "()V"⟩
abbrev cX8_number : ByteArray := prog_10_method_10_code
def yX8_number : MethodName := ⟨RX8, "number", "(II)I"⟩
abbrev cX8_jointHere : ByteArray := prog_10_method_11_code
def yX8_jointHere : MethodName := ⟨RX8, "jointHere", "(I)I"⟩
abbrev cX8_readOnce : ByteArray := prog_10_method_12_code
def yX8_readOnce : MethodName := ⟨RX8, "readOnce", "(I)V"⟩
abbrev cX8_readMore : ByteArray := prog_10_method_13_code
def yX8_readMore : MethodName := ⟨RX8, "readMore", "(I)V"⟩
abbrev cX8_readLine : ByteArray := prog_10_method_14_code
def yX8_readLine : MethodName := ⟨RX8, "readLine", "()V"⟩
abbrev cX8_begins : ByteArray := prog_10_method_15_code
def yX8_begins : MethodName := ⟨RX8, "begins", "()V"⟩
abbrev cX8_text : ByteArray := prog_10_method_16_code
def yX8_text : MethodName := ⟨RX8, "text", "()I"⟩
abbrev cX8_fault : ByteArray := prog_10_method_17_code
def yX8_fault : MethodName := ⟨RX8, "fault", "()I"⟩
abbrev cX8_isJoint : ByteArray := prog_10_method_18_code
def yX8_isJoint : MethodName := ⟨RX8, "isJoint", "(I)Z"⟩
abbrev cX8_isArm : ByteArray := prog_10_method_19_code
def yX8_isArm : MethodName := ⟨RX8, "isArm", "(I)Z"⟩
abbrev cX8_slip : ByteArray := prog_10_method_20_code
def yX8_slip : MethodName := ⟨RX8, "slip", "()I"⟩
abbrev cX8_pace : ByteArray := prog_10_method_21_code
def yX8_pace : MethodName := ⟨RX8, "pace", "()I"⟩
abbrev cX8_handMany : ByteArray := prog_10_method_22_code
def yX8_handMany : MethodName := ⟨RX8, "handMany", "()I"⟩
abbrev cX8_rule : ByteArray := prog_10_method_23_code
def yX8_rule : MethodName := ⟨RX8, "rule", "(I)I"⟩
abbrev cX8_holdsOf : ByteArray := prog_10_method_24_code
def yX8_holdsOf : MethodName := ⟨RX8, "holdsOf", "(I)I"⟩
abbrev cX8_arm : ByteArray := prog_10_method_25_code
def yX8_arm : MethodName := ⟨RX8, "arm", "(II)I"⟩
abbrev cX8_mark : ByteArray := prog_10_method_26_code
def yX8_mark : MethodName := ⟨RX8, "mark", "(II)I"⟩
abbrev cX8_town : ByteArray := prog_10_method_27_code
def yX8_town : MethodName := ⟨RX8, "town", "(II)I"⟩
abbrev cX8_lays : ByteArray := prog_10_method_28_code
def yX8_lays : MethodName := ⟨RX8, "lays", "(ZIII)I"⟩
abbrev cX8_set : ByteArray := prog_10_method_29_code
def yX8_set : MethodName := ⟨RX8, "set", "(II)I"⟩
abbrev cX8_net : ByteArray := prog_10_method_30_code
def yX8_net : MethodName := ⟨RX8, "net", "(II)I"⟩
abbrev cX8_signal : ByteArray := prog_10_method_31_code
def yX8_signal : MethodName := ⟨RX8, "signal", "(IZ)I"⟩
abbrev cX8_bridge : ByteArray := prog_10_method_32_code
def yX8_bridge : MethodName := ⟨RX8, "bridge", "(I)I"⟩
abbrev cX8_clear : ByteArray := prog_10_method_33_code
def yX8_clear : MethodName := ⟨RX8, "clear", "(II)I"⟩
abbrev cX8_hang : ByteArray := prog_10_method_34_code
def yX8_hang : MethodName := ⟨RX8, "hang", "(II)I"⟩
abbrev cX8_posts : ByteArray := prog_10_method_35_code
def yX8_posts : MethodName := ⟨RX8, "posts", "(II)I"⟩
abbrev cX8_post : ByteArray := prog_10_method_36_code
def yX8_post : MethodName := ⟨RX8, "post", "(II)I"⟩
abbrev cX8_counted : ByteArray := prog_10_method_37_code
def yX8_counted : MethodName := ⟨RX8, "counted", "(III)V"⟩
abbrev cX8_nights : ByteArray := prog_10_method_38_code
def yX8_nights : MethodName := ⟨RX8, "nights", "(II)V"⟩
abbrev cX8_nightTold : ByteArray := prog_10_method_39_code
def yX8_nightTold : MethodName := ⟨RX8, "nightTold", "(I)I"⟩
abbrev cX8_areSets : ByteArray := prog_10_method_40_code
def yX8_areSets : MethodName := ⟨RX8, "areSets", "(II)Z"⟩
abbrev cX8_night : ByteArray := prog_10_method_41_code
def yX8_night : MethodName := ⟨RX8, "night", "(III)I"⟩
abbrev cX8_countAt : ByteArray := prog_10_method_42_code
def yX8_countAt : MethodName := ⟨RX8, "countAt", "(III)I"⟩
abbrev cX8_counts : ByteArray := prog_10_method_43_code
def yX8_counts : MethodName := ⟨RX8, "counts", "(III)I"⟩
abbrev cX8_bitsOf : ByteArray := prog_10_method_44_code
def yX8_bitsOf : MethodName := ⟨RX8, "bitsOf", "(I)I"⟩
abbrev cX8_weightOf : ByteArray := prog_10_method_45_code
def yX8_weightOf : MethodName := ⟨RX8, "weightOf", "(II)J"⟩
abbrev cX8_lowest : ByteArray := prog_10_method_46_code
def yX8_lowest : MethodName := ⟨RX8, "lowest", "(JJI)J"⟩
abbrev cX8_worthNow : ByteArray := prog_10_method_47_code
def yX8_worthNow : MethodName := ⟨RX8, "worthNow", "()I"⟩
abbrev cX8_valueOf : ByteArray := prog_10_method_48_code
def yX8_valueOf : MethodName := ⟨RX8, "valueOf", "(IIIII)I"⟩
abbrev cX8_sumOf : ByteArray := prog_10_method_49_code
def yX8_sumOf : MethodName := ⟨RX8, "sumOf", "(III)J"⟩
abbrev cX8_allWeight : ByteArray := prog_10_method_50_code
def yX8_allWeight : MethodName := ⟨RX8, "allWeight", "(Z)J"⟩
abbrev cX8_meanOf : ByteArray := prog_10_method_51_code
def yX8_meanOf : MethodName := ⟨RX8, "meanOf", "(IIII)J"⟩
abbrev cX8_where : ByteArray := prog_10_method_52_code
def yX8_where : MethodName := ⟨RX8, "where", "(III)J"⟩
abbrev cX8_goes : ByteArray := prog_10_method_53_code
def yX8_goes : MethodName := ⟨RX8, "goes", "(II)J"⟩
abbrev cX8_isOut : ByteArray := prog_10_method_54_code
def yX8_isOut : MethodName := ⟨RX8, "isOut", "(II)J"⟩
abbrev cX8_had : ByteArray := prog_10_method_55_code
def yX8_had : MethodName := ⟨RX8, "had", "(II)J"⟩
abbrev cX8_hits : ByteArray := prog_10_method_56_code
def yX8_hits : MethodName := ⟨RX8, "hits", "(I)J"⟩
abbrev cX8_torn : ByteArray := prog_10_method_57_code
def yX8_torn : MethodName := ⟨RX8, "torn", "(I)J"⟩
abbrev cX8_worth : ByteArray := prog_10_method_58_code
def yX8_worth : MethodName := ⟨RX8, "worth", "(I)J"⟩
abbrev cX8_copies : ByteArray := prog_10_method_59_code
def yX8_copies : MethodName := ⟨RX8, "copies", "(II)V"⟩
abbrev cX8_best : ByteArray := prog_10_method_60_code
def yX8_best : MethodName := ⟨RX8, "best", "(I)J"⟩
abbrev cX8_isHad : ByteArray := prog_10_method_61_code
def yX8_isHad : MethodName := ⟨RX8, "isHad", "(II)Z"⟩
abbrev cX8_areTenths : ByteArray := prog_10_method_62_code
def yX8_areTenths : MethodName := ⟨RX8, "areTenths", "(I)Z"⟩
abbrev cX8_fog : ByteArray := prog_10_method_63_code
def yX8_fog : MethodName := ⟨RX8, "fog", "(II)I"⟩
abbrev cX8_fast : ByteArray := prog_10_method_64_code
def yX8_fast : MethodName := ⟨RX8, "fast", "(II)I"⟩
abbrev cX8_slack : ByteArray := prog_10_method_65_code
def yX8_slack : MethodName := ⟨RX8, "slack", "(II)I"⟩
abbrev cX8_minutesBy : ByteArray := prog_10_method_66_code
def yX8_minutesBy : MethodName := ⟨RX8, "minutesBy", "(II)I"⟩
abbrev cX8_sort : ByteArray := prog_10_method_67_code
def yX8_sort : MethodName := ⟨RX8, "sort", "(II)I"⟩
abbrev cX8_minutes : ByteArray := prog_10_method_68_code
def yX8_minutes : MethodName := ⟨RX8, "minutes", "(I)I"⟩
abbrev cX8_hands : ByteArray := prog_10_method_69_code
def yX8_hands : MethodName := ⟨RX8, "hands", "(I)I"⟩
abbrev cX8_see : ByteArray := prog_10_method_70_code
def yX8_see : MethodName := ⟨RX8, "see", "(II)I"⟩
abbrev cX8_forget : ByteArray := prog_10_method_71_code
def yX8_forget : MethodName := ⟨RX8, "forget", "(I)I"⟩
abbrev cX8_isAsSeen : ByteArray := prog_10_method_72_code
def yX8_isAsSeen : MethodName := ⟨RX8, "isAsSeen", "(II)Z"⟩
abbrev cX8_fits : ByteArray := prog_10_method_73_code
def yX8_fits : MethodName := ⟨RX8, "fits", "(I)I"⟩
abbrev cX8_likely : ByteArray := prog_10_method_74_code
def yX8_likely : MethodName := ⟨RX8, "likely", "(I)J"⟩
abbrev cX8_drift : ByteArray := prog_10_method_75_code
def yX8_drift : MethodName := ⟨RX8, "drift", "(II)I"⟩
abbrev cX8_keep : ByteArray := prog_10_method_76_code
def yX8_keep : MethodName := ⟨RX8, "keep", "(I)I"⟩
abbrev cX8_back : ByteArray := prog_10_method_77_code
def yX8_back : MethodName := ⟨RX8, "back", "(I)I"⟩
abbrev cX8_sheet : ByteArray := prog_10_method_78_code
def yX8_sheet : MethodName := ⟨RX8, "sheet", "(III)I"⟩
abbrev cX8_lay : ByteArray := prog_10_method_79_code
def yX8_lay : MethodName := ⟨RX8, "lay", "(III)I"⟩
abbrev cX8_read : ByteArray := prog_10_method_80_code
def yX8_read : MethodName := ⟨RX8, "read", "(IIII)I"⟩
abbrev cX8_split : ByteArray := prog_10_method_81_code
def yX8_split : MethodName := ⟨RX8, "split", "()I"⟩
abbrev cX8_count : ByteArray := prog_10_method_82_code
def yX8_count : MethodName := ⟨RX8, "count", "(I)I"⟩
def RJx145de : String := "java/io/Serializable"
def TJx145de : u_T := fun k => match k with
  | _ => ("", "", "", false)
def tyJx145de : Nat → FieldType := fun k => match k with
  | _ => .int
theorem nmJx145de : ∀ a, a < 0 → ∀ b, b < 0 → a ≠ b → (TJx145de a).2.1 ≠ (TJx145de b).2.1 := by decide +kernel
theorem tyJx145de_ok : ∀ k, k < 0 → parseFieldDescriptor (TJx145de k).2.2.1 = some (tyJx145de k) := by decide +kernel
def RJx9f9b0 : String := "java/lang/CharSequence"
def TJx9f9b0 : u_T := fun k => match k with
  | _ => ("", "", "", false)
def tyJx9f9b0 : Nat → FieldType := fun k => match k with
  | _ => .int
theorem nmJx9f9b0 : ∀ a, a < 0 → ∀ b, b < 0 → a ≠ b → (TJx9f9b0 a).2.1 ≠ (TJx9f9b0 b).2.1 := by decide +kernel
theorem tyJx9f9b0_ok : ∀ k, k < 0 → parseFieldDescriptor (TJx9f9b0 k).2.2.1 = some (tyJx9f9b0 k) := by decide +kernel
def RJxb160c : String := "java/lang/Comparable"
def TJxb160c : u_T := fun k => match k with
  | _ => ("", "", "", false)
def tyJxb160c : Nat → FieldType := fun k => match k with
  | _ => .int
theorem nmJxb160c : ∀ a, a < 0 → ∀ b, b < 0 → a ≠ b → (TJxb160c a).2.1 ≠ (TJxb160c b).2.1 := by decide +kernel
theorem tyJxb160c_ok : ∀ k, k < 0 → parseFieldDescriptor (TJxb160c k).2.2.1 = some (tyJxb160c k) := by decide +kernel
def RJ6 : String := "java/lang/Integer"
def TJ6 : u_T := fun k => match k with
  | _ => ("", "", "", false)
def tyJ6 : Nat → FieldType := fun k => match k with
  | _ => .int
theorem nmJ6 : ∀ a, a < 0 → ∀ b, b < 0 → a ≠ b → (TJ6 a).2.1 ≠ (TJ6 b).2.1 := by decide +kernel
theorem tyJ6_ok : ∀ k, k < 0 → parseFieldDescriptor (TJ6 k).2.2.1 = some (tyJ6 k) := by decide +kernel
abbrev cJ6_bitCount_0f7a4 : ByteArray := prog_11_method_49_code
def yJ6_bitCount_0f7a4 : MethodName := ⟨RJ6, "bitCount", "(I)I"⟩
def RJ9 : String := "java/lang/Math"
def TJ9 : u_T := fun k => match k with
  | _ => ("", "", "", false)
def tyJ9 : Nat → FieldType := fun k => match k with
  | _ => .int
theorem nmJ9 : ∀ a, a < 0 → ∀ b, b < 0 → a ≠ b → (TJ9 a).2.1 ≠ (TJ9 b).2.1 := by decide +kernel
theorem tyJ9_ok : ∀ k, k < 0 → parseFieldDescriptor (TJ9 k).2.2.1 = some (tyJ9 k) := by decide +kernel
abbrev cJ9_abs_067f4 : ByteArray := prog_12_method_61_code
def yJ9_abs_067f4 : MethodName := ⟨RJ9, "abs", "(J)J"⟩
abbrev cJ9_max_7cf53 : ByteArray := prog_12_method_65_code
def yJ9_max_7cf53 : MethodName := ⟨RJ9, "max", "(II)I"⟩
abbrev cJ9_max_f86c9 : ByteArray := prog_12_method_66_code
def yJ9_max_f86c9 : MethodName := ⟨RJ9, "max", "(JJ)J"⟩
abbrev cJ9_min_7cf53 : ByteArray := prog_12_method_69_code
def yJ9_min_7cf53 : MethodName := ⟨RJ9, "min", "(II)I"⟩
def RJ0 : String := "java/lang/String"
def TJ0 : u_T := fun k => match k with
  | _ => ("", "", "", false)
def tyJ0 : Nat → FieldType := fun k => match k with
  | _ => .int
theorem nmJ0 : ∀ a, a < 0 → ∀ b, b < 0 → a ≠ b → (TJ0 a).2.1 ≠ (TJ0 b).2.1 := by decide +kernel
theorem tyJ0_ok : ∀ k, k < 0 → parseFieldDescriptor (TJ0 k).2.2.1 = some (tyJ0 k) := by decide +kernel
abbrev cJ0_length_8abf5 : ByteArray := prog_13_method_54_code
def yJ0_length_8abf5 : MethodName := ⟨RJ0, "length", "()I"⟩
abbrev cJ0_charAt_5068e : ByteArray := prog_13_method_56_code
def yJ0_charAt_5068e : MethodName := ⟨RJ0, "charAt", "(I)C"⟩
abbrev cJ0_coder_7d493 : ByteArray := prog_13_method_152_code
def yJ0_coder_7d493 : MethodName := ⟨RJ0, "coder", "()B"⟩
abbrev cJ0_isLatin1_aae02 : ByteArray := prog_13_method_154_code
def yJ0_isLatin1_aae02 : MethodName := ⟨RJ0, "isLatin1", "()Z"⟩
abbrev cJ0_checkIndex_df160 : ByteArray := prog_13_method_155_code
def yJ0_checkIndex_df160 : MethodName := ⟨RJ0, "checkIndex", "(II)V"⟩
def RJ1 : String := "java/lang/StringLatin1"
def TJ1 : u_T := fun k => match k with
  | _ => ("", "", "", false)
def tyJ1 : Nat → FieldType := fun k => match k with
  | _ => .int
theorem nmJ1 : ∀ a, a < 0 → ∀ b, b < 0 → a ≠ b → (TJ1 a).2.1 ≠ (TJ1 b).2.1 := by decide +kernel
theorem tyJ1_ok : ∀ k, k < 0 → parseFieldDescriptor (TJ1 k).2.2.1 = some (tyJ1 k) := by decide +kernel
abbrev cJ1_charAt_3b067 : ByteArray := prog_14_method_2_code
def yJ1_charAt_3b067 : MethodName := ⟨RJ1, "charAt", "([BI)C"⟩
def RJ2 : String := "java/lang/StringUTF16"
def TJ2 : u_T := fun k => match k with
  | _ => ("", "", "", false)
def tyJ2 : Nat → FieldType := fun k => match k with
  | _ => .int
theorem nmJ2 : ∀ a, a < 0 → ∀ b, b < 0 → a ≠ b → (TJ2 a).2.1 ≠ (TJ2 b).2.1 := by decide +kernel
theorem tyJ2_ok : ∀ k, k < 0 → parseFieldDescriptor (TJ2 k).2.2.1 = some (tyJ2 k) := by decide +kernel
abbrev cJ2_getChar_3b067 : ByteArray := prog_15_method_5_code
def yJ2_getChar_3b067 : MethodName := ⟨RJ2, "getChar", "([BI)C"⟩
abbrev cJ2_length_9d52b : ByteArray := prog_15_method_6_code
def yJ2_length_9d52b : MethodName := ⟨RJ2, "length", "([B)I"⟩
abbrev cJ2_charAt_3b067 : ByteArray := prog_15_method_83_code
def yJ2_charAt_3b067 : MethodName := ⟨RJ2, "charAt", "([BI)C"⟩
abbrev cJ2_checkIndex_2214a : ByteArray := prog_15_method_91_code
def yJ2_checkIndex_2214a : MethodName := ⟨RJ2, "checkIndex", "(I[B)V"⟩
def RJ10 : String := "java/lang/System"
def TJ10 : u_T := fun k => match k with
  | _ => ("", "", "", false)
def tyJ10 : Nat → FieldType := fun k => match k with
  | _ => .int
theorem nmJ10 : ∀ a, a < 0 → ∀ b, b < 0 → a ≠ b → (TJ10 a).2.1 ≠ (TJ10 b).2.1 := by decide +kernel
theorem tyJ10_ok : ∀ k, k < 0 → parseFieldDescriptor (TJ10 k).2.2.1 = some (tyJ10 k) := by decide +kernel
def RJxfd54e : String := "java/lang/constant/Constable"
def TJxfd54e : u_T := fun k => match k with
  | _ => ("", "", "", false)
def tyJxfd54e : Nat → FieldType := fun k => match k with
  | _ => .int
theorem nmJxfd54e : ∀ a, a < 0 → ∀ b, b < 0 → a ≠ b → (TJxfd54e a).2.1 ≠ (TJxfd54e b).2.1 := by decide +kernel
theorem tyJxfd54e_ok : ∀ k, k < 0 → parseFieldDescriptor (TJxfd54e k).2.2.1 = some (tyJxfd54e k) := by decide +kernel
def RJx3cf43 : String := "java/lang/constant/ConstantDesc"
def TJx3cf43 : u_T := fun k => match k with
  | _ => ("", "", "", false)
def tyJx3cf43 : Nat → FieldType := fun k => match k with
  | _ => .int
theorem nmJx3cf43 : ∀ a, a < 0 → ∀ b, b < 0 → a ≠ b → (TJx3cf43 a).2.1 ≠ (TJx3cf43 b).2.1 := by decide +kernel
theorem tyJx3cf43_ok : ∀ k, k < 0 → parseFieldDescriptor (TJx3cf43 k).2.2.1 = some (tyJx3cf43 k) := by decide +kernel
def RJ7 : String := "java/util/Arrays"
def TJ7 : u_T := fun k => match k with
  | _ => ("", "", "", false)
def tyJ7 : Nat → FieldType := fun k => match k with
  | _ => .int
theorem nmJ7 : ∀ a, a < 0 → ∀ b, b < 0 → a ≠ b → (TJ7 a).2.1 ≠ (TJ7 b).2.1 := by decide +kernel
theorem tyJ7_ok : ∀ k, k < 0 → parseFieldDescriptor (TJ7 k).2.2.1 = some (tyJ7 k) := by decide +kernel
abbrev cJ7_fill_d0a16 : ByteArray := prog_17_method_101_code
def yJ7_fill_d0a16 : MethodName := ⟨RJ7, "fill", "([JJ)V"⟩
def RJ3 : String := "jdk/internal/util/Preconditions"
def TJ3 : u_T := fun k => match k with
  | _ => ("", "", "", false)
def tyJ3 : Nat → FieldType := fun k => match k with
  | _ => .int
theorem nmJ3 : ∀ a, a < 0 → ∀ b, b < 0 → a ≠ b → (TJ3 a).2.1 ≠ (TJ3 b).2.1 := by decide +kernel
theorem tyJ3_ok : ∀ k, k < 0 → parseFieldDescriptor (TJ3 k).2.2.1 = some (tyJ3 k) := by decide +kernel
abbrev cJ3_checkIndex_8e157 : ByteArray := prog_18_method_11_code
def yJ3_checkIndex_8e157 : MethodName := ⟨RJ3, "checkIndex", "(IILjava/util/function/BiFunction;)I"⟩
def RL : String := "MailCatchLaw"
abbrev cL_law : ByteArray := code
def yL_law : MethodName := ⟨RL, "law", "([I)Z"⟩
abbrev vwCl : List vw_C := [(RX0, TX0, 10), (RX1, TX1, 6), (RX2, TX2, 5), (RX3, TX3, 3), (RX4, TX4, 4), (RX5, TX5, 5), (RX6, TX6, 8), (RX7, TX7, 13), (RX8, TX8, 47)]

/-! the tables' good words -/
def TBL : List Cond := lw_tbl.filter goodWord
theorem tb_in {w : Cond} (i : Nat) (h : lw_tbl[i]? = some w) (hg : goodWord w = true) : w ∈ TBL := List.mem_filter.mpr ⟨List.mem_of_getElem? h, hg⟩
theorem tb_ws {ws : List Cond} (h : ws.all (fun w => decide (w ∈ lw_tbl) && goodWord w) = true) : ∀ w ∈ ws, w ∈ TBL := by
  intro w hw
  have h1 := List.all_eq_true.mp h w hw
  simp only [Bool.and_eq_true, decide_eq_true_eq] at h1
  exact List.mem_filter.mpr h1
theorem TBL_sub : ∀ w ∈ TBL, w ∈ lw_tbl := fun w h => (List.mem_filter.mp h).1
theorem tb_good : GoodIn TBL TBL := fun w h => ⟨h, good_of_word (List.mem_filter.mp h).2⟩
